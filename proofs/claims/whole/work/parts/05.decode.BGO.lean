theorem d_B_init_0 : decode b_B_init 0 = .ok (.aload_n 0, 1) := by decide +kernel
theorem d_B_init_1 : decode b_B_init 1 = .ok (.invokespecial 3, 3) := by decide +kernel
theorem d_B_init_4 : decode b_B_init 4 = .ok (.aload_n 0, 1) := by decide +kernel
theorem d_B_init_5 : decode b_B_init 5 = .ok (.bipush 8, 2) := by decide +kernel
theorem d_B_init_7 : decode b_B_init 7 = .ok (.newarray .int, 2) := by decide +kernel
theorem d_B_init_9 : decode b_B_init 9 = .ok (.putfield 9, 3) := by decide +kernel
theorem d_B_init_12 : decode b_B_init 12 = .ok (.aload_n 0, 1) := by decide +kernel
theorem d_B_init_13 : decode b_B_init 13 = .ok (.bipush 8, 2) := by decide +kernel
theorem d_B_init_15 : decode b_B_init 15 = .ok (.newarray .int, 2) := by decide +kernel
theorem d_B_init_17 : decode b_B_init 17 = .ok (.putfield 15, 3) := by decide +kernel
theorem d_B_init_20 : decode b_B_init 20 = .ok (.aload_n 0, 1) := by decide +kernel
theorem d_B_init_21 : decode b_B_init 21 = .ok (.bipush 8, 2) := by decide +kernel
theorem d_B_init_23 : decode b_B_init 23 = .ok (.newarray .int, 2) := by decide +kernel
theorem d_B_init_25 : decode b_B_init 25 = .ok (.putfield 18, 3) := by decide +kernel
theorem d_B_init_28 : decode b_B_init 28 = .ok (.aload_n 0, 1) := by decide +kernel
theorem d_B_init_29 : decode b_B_init 29 = .ok (.bipush 8, 2) := by decide +kernel
theorem d_B_init_31 : decode b_B_init 31 = .ok (.newarray .int, 2) := by decide +kernel
theorem d_B_init_33 : decode b_B_init 33 = .ok (.putfield 21, 3) := by decide +kernel
theorem d_B_init_36 : decode b_B_init 36 = .ok (.aload_n 0, 1) := by decide +kernel
theorem d_B_init_37 : decode b_B_init 37 = .ok (.iconst 0, 1) := by decide +kernel
theorem d_B_init_38 : decode b_B_init 38 = .ok (.putfield 24, 3) := by decide +kernel
theorem d_B_init_41 : decode b_B_init 41 = .ok (.return_, 1) := by decide +kernel
theorem d_B_has_0 : decode b_B_has 0 = .ok (.iload_n 1, 1) := by decide +kernel
theorem d_B_has_1 : decode b_B_has 1 = .ok (.ifCond .lt 15, 3) := by decide +kernel
theorem d_B_has_4 : decode b_B_has 4 = .ok (.iload_n 1, 1) := by decide +kernel
theorem d_B_has_5 : decode b_B_has 5 = .ok (.aload_n 0, 1) := by decide +kernel
theorem d_B_has_6 : decode b_B_has 6 = .ok (.getfield 24, 3) := by decide +kernel
theorem d_B_has_9 : decode b_B_has 9 = .ok (.if_icmp .ge 7, 3) := by decide +kernel
theorem d_B_has_12 : decode b_B_has 12 = .ok (.iconst 1, 1) := by decide +kernel
theorem d_B_has_13 : decode b_B_has 13 = .ok (.goto 4, 3) := by decide +kernel
theorem d_B_has_16 : decode b_B_has 16 = .ok (.iconst 0, 1) := by decide +kernel
theorem d_B_has_17 : decode b_B_has 17 = .ok (.ireturn, 1) := by decide +kernel
theorem d_B_add_0 : decode b_B_add 0 = .ok (.aload_n 0, 1) := by decide +kernel
theorem d_B_add_1 : decode b_B_add 1 = .ok (.getfield 24, 3) := by decide +kernel
theorem d_B_add_4 : decode b_B_add 4 = .ok (.bipush 8, 2) := by decide +kernel
theorem d_B_add_6 : decode b_B_add 6 = .ok (.if_icmp .lt 6, 3) := by decide +kernel
theorem d_B_add_9 : decode b_B_add 9 = .ok (.ldc 28, 2) := by decide +kernel
theorem d_B_add_11 : decode b_B_add 11 = .ok (.ireturn, 1) := by decide +kernel
theorem d_B_add_12 : decode b_B_add 12 = .ok (.aload_n 0, 1) := by decide +kernel
theorem d_B_add_13 : decode b_B_add 13 = .ok (.getfield 9, 3) := by decide +kernel
theorem d_B_add_16 : decode b_B_add 16 = .ok (.aload_n 0, 1) := by decide +kernel
theorem d_B_add_17 : decode b_B_add 17 = .ok (.getfield 24, 3) := by decide +kernel
theorem d_B_add_20 : decode b_B_add 20 = .ok (.iload_n 1, 1) := by decide +kernel
theorem d_B_add_21 : decode b_B_add 21 = .ok (.iastore, 1) := by decide +kernel
theorem d_B_add_22 : decode b_B_add 22 = .ok (.aload_n 0, 1) := by decide +kernel
theorem d_B_add_23 : decode b_B_add 23 = .ok (.getfield 15, 3) := by decide +kernel
theorem d_B_add_26 : decode b_B_add 26 = .ok (.aload_n 0, 1) := by decide +kernel
theorem d_B_add_27 : decode b_B_add 27 = .ok (.getfield 24, 3) := by decide +kernel
theorem d_B_add_30 : decode b_B_add 30 = .ok (.iload_n 2, 1) := by decide +kernel
theorem d_B_add_31 : decode b_B_add 31 = .ok (.iastore, 1) := by decide +kernel
theorem d_B_add_32 : decode b_B_add 32 = .ok (.aload_n 0, 1) := by decide +kernel
theorem d_B_add_33 : decode b_B_add 33 = .ok (.getfield 18, 3) := by decide +kernel
theorem d_B_add_36 : decode b_B_add 36 = .ok (.aload_n 0, 1) := by decide +kernel
theorem d_B_add_37 : decode b_B_add 37 = .ok (.getfield 24, 3) := by decide +kernel
theorem d_B_add_40 : decode b_B_add 40 = .ok (.iload_n 3, 1) := by decide +kernel
theorem d_B_add_41 : decode b_B_add 41 = .ok (.iastore, 1) := by decide +kernel
theorem d_B_add_42 : decode b_B_add 42 = .ok (.aload_n 0, 1) := by decide +kernel
theorem d_B_add_43 : decode b_B_add 43 = .ok (.getfield 21, 3) := by decide +kernel
theorem d_B_add_46 : decode b_B_add 46 = .ok (.aload_n 0, 1) := by decide +kernel
theorem d_B_add_47 : decode b_B_add 47 = .ok (.getfield 24, 3) := by decide +kernel
theorem d_B_add_50 : decode b_B_add 50 = .ok (.iload 4, 2) := by decide +kernel
theorem d_B_add_52 : decode b_B_add 52 = .ok (.iastore, 1) := by decide +kernel
theorem d_B_add_53 : decode b_B_add 53 = .ok (.aload_n 0, 1) := by decide +kernel
theorem d_B_add_54 : decode b_B_add 54 = .ok (.dup, 1) := by decide +kernel
theorem d_B_add_55 : decode b_B_add 55 = .ok (.getfield 24, 3) := by decide +kernel
theorem d_B_add_58 : decode b_B_add 58 = .ok (.iconst 1, 1) := by decide +kernel
theorem d_B_add_59 : decode b_B_add 59 = .ok (.iadd, 1) := by decide +kernel
theorem d_B_add_60 : decode b_B_add 60 = .ok (.putfield 24, 3) := by decide +kernel
theorem d_B_add_63 : decode b_B_add 63 = .ok (.aload_n 0, 1) := by decide +kernel
theorem d_B_add_64 : decode b_B_add 64 = .ok (.getfield 24, 3) := by decide +kernel
theorem d_B_add_67 : decode b_B_add 67 = .ok (.iconst 1, 1) := by decide +kernel
theorem d_B_add_68 : decode b_B_add 68 = .ok (.isub, 1) := by decide +kernel
theorem d_B_add_69 : decode b_B_add 69 = .ok (.ireturn, 1) := by decide +kernel
theorem d_B_remove_0 : decode b_B_remove 0 = .ok (.iload_n 1, 1) := by decide +kernel
theorem d_B_remove_1 : decode b_B_remove 1 = .ok (.istore_n 2, 1) := by decide +kernel
theorem d_B_remove_2 : decode b_B_remove 2 = .ok (.iload_n 2, 1) := by decide +kernel
theorem d_B_remove_3 : decode b_B_remove 3 = .ok (.iconst 1, 1) := by decide +kernel
theorem d_B_remove_4 : decode b_B_remove 4 = .ok (.iadd, 1) := by decide +kernel
theorem d_B_remove_5 : decode b_B_remove 5 = .ok (.aload_n 0, 1) := by decide +kernel
theorem d_B_remove_6 : decode b_B_remove 6 = .ok (.getfield 24, 3) := by decide +kernel
theorem d_B_remove_9 : decode b_B_remove 9 = .ok (.if_icmp .ge 65, 3) := by decide +kernel
theorem d_B_remove_12 : decode b_B_remove 12 = .ok (.aload_n 0, 1) := by decide +kernel
theorem d_B_remove_13 : decode b_B_remove 13 = .ok (.getfield 9, 3) := by decide +kernel
theorem d_B_remove_16 : decode b_B_remove 16 = .ok (.iload_n 2, 1) := by decide +kernel
theorem d_B_remove_17 : decode b_B_remove 17 = .ok (.aload_n 0, 1) := by decide +kernel
theorem d_B_remove_18 : decode b_B_remove 18 = .ok (.getfield 9, 3) := by decide +kernel
theorem d_B_remove_21 : decode b_B_remove 21 = .ok (.iload_n 2, 1) := by decide +kernel
theorem d_B_remove_22 : decode b_B_remove 22 = .ok (.iconst 1, 1) := by decide +kernel
theorem d_B_remove_23 : decode b_B_remove 23 = .ok (.iadd, 1) := by decide +kernel
theorem d_B_remove_24 : decode b_B_remove 24 = .ok (.iaload, 1) := by decide +kernel
theorem d_B_remove_25 : decode b_B_remove 25 = .ok (.iastore, 1) := by decide +kernel
theorem d_B_remove_26 : decode b_B_remove 26 = .ok (.aload_n 0, 1) := by decide +kernel
theorem d_B_remove_27 : decode b_B_remove 27 = .ok (.getfield 15, 3) := by decide +kernel
theorem d_B_remove_30 : decode b_B_remove 30 = .ok (.iload_n 2, 1) := by decide +kernel
theorem d_B_remove_31 : decode b_B_remove 31 = .ok (.aload_n 0, 1) := by decide +kernel
theorem d_B_remove_32 : decode b_B_remove 32 = .ok (.getfield 15, 3) := by decide +kernel
theorem d_B_remove_35 : decode b_B_remove 35 = .ok (.iload_n 2, 1) := by decide +kernel
theorem d_B_remove_36 : decode b_B_remove 36 = .ok (.iconst 1, 1) := by decide +kernel
theorem d_B_remove_37 : decode b_B_remove 37 = .ok (.iadd, 1) := by decide +kernel
theorem d_B_remove_38 : decode b_B_remove 38 = .ok (.iaload, 1) := by decide +kernel
theorem d_B_remove_39 : decode b_B_remove 39 = .ok (.iastore, 1) := by decide +kernel
theorem d_B_remove_40 : decode b_B_remove 40 = .ok (.aload_n 0, 1) := by decide +kernel
theorem d_B_remove_41 : decode b_B_remove 41 = .ok (.getfield 18, 3) := by decide +kernel
theorem d_B_remove_44 : decode b_B_remove 44 = .ok (.iload_n 2, 1) := by decide +kernel
theorem d_B_remove_45 : decode b_B_remove 45 = .ok (.aload_n 0, 1) := by decide +kernel
theorem d_B_remove_46 : decode b_B_remove 46 = .ok (.getfield 18, 3) := by decide +kernel
theorem d_B_remove_49 : decode b_B_remove 49 = .ok (.iload_n 2, 1) := by decide +kernel
theorem d_B_remove_50 : decode b_B_remove 50 = .ok (.iconst 1, 1) := by decide +kernel
theorem d_B_remove_51 : decode b_B_remove 51 = .ok (.iadd, 1) := by decide +kernel
theorem d_B_remove_52 : decode b_B_remove 52 = .ok (.iaload, 1) := by decide +kernel
theorem d_B_remove_53 : decode b_B_remove 53 = .ok (.iastore, 1) := by decide +kernel
theorem d_B_remove_54 : decode b_B_remove 54 = .ok (.aload_n 0, 1) := by decide +kernel
theorem d_B_remove_55 : decode b_B_remove 55 = .ok (.getfield 21, 3) := by decide +kernel
theorem d_B_remove_58 : decode b_B_remove 58 = .ok (.iload_n 2, 1) := by decide +kernel
theorem d_B_remove_59 : decode b_B_remove 59 = .ok (.aload_n 0, 1) := by decide +kernel
theorem d_B_remove_60 : decode b_B_remove 60 = .ok (.getfield 21, 3) := by decide +kernel
theorem d_B_remove_63 : decode b_B_remove 63 = .ok (.iload_n 2, 1) := by decide +kernel
theorem d_B_remove_64 : decode b_B_remove 64 = .ok (.iconst 1, 1) := by decide +kernel
theorem d_B_remove_65 : decode b_B_remove 65 = .ok (.iadd, 1) := by decide +kernel
theorem d_B_remove_66 : decode b_B_remove 66 = .ok (.iaload, 1) := by decide +kernel
theorem d_B_remove_67 : decode b_B_remove 67 = .ok (.iastore, 1) := by decide +kernel
theorem d_B_remove_68 : decode b_B_remove 68 = .ok (.iinc 2 1, 3) := by decide +kernel
theorem d_B_remove_71 : decode b_B_remove 71 = .ok (.goto (-69), 3) := by decide +kernel
theorem d_B_remove_74 : decode b_B_remove 74 = .ok (.aload_n 0, 1) := by decide +kernel
theorem d_B_remove_75 : decode b_B_remove 75 = .ok (.dup, 1) := by decide +kernel
theorem d_B_remove_76 : decode b_B_remove 76 = .ok (.getfield 24, 3) := by decide +kernel
theorem d_B_remove_79 : decode b_B_remove 79 = .ok (.iconst 1, 1) := by decide +kernel
theorem d_B_remove_80 : decode b_B_remove 80 = .ok (.isub, 1) := by decide +kernel
theorem d_B_remove_81 : decode b_B_remove 81 = .ok (.putfield 24, 3) := by decide +kernel
theorem d_B_remove_84 : decode b_B_remove 84 = .ok (.return_, 1) := by decide +kernel
theorem d_G_init_0 : decode b_G_init 0 = .ok (.aload_n 0, 1) := by decide +kernel
theorem d_G_init_1 : decode b_G_init 1 = .ok (.invokespecial 3, 3) := by decide +kernel
theorem d_G_init_4 : decode b_G_init 4 = .ok (.aload_n 0, 1) := by decide +kernel
theorem d_G_init_5 : decode b_G_init 5 = .ok (.bipush 6, 2) := by decide +kernel
theorem d_G_init_7 : decode b_G_init 7 = .ok (.newarray .int, 2) := by decide +kernel
theorem d_G_init_9 : decode b_G_init 9 = .ok (.putfield 9, 3) := by decide +kernel
theorem d_G_init_12 : decode b_G_init 12 = .ok (.aload_n 0, 1) := by decide +kernel
theorem d_G_init_13 : decode b_G_init 13 = .ok (.bipush 6, 2) := by decide +kernel
theorem d_G_init_15 : decode b_G_init 15 = .ok (.newarray .int, 2) := by decide +kernel
theorem d_G_init_17 : decode b_G_init 17 = .ok (.putfield 15, 3) := by decide +kernel
theorem d_G_init_20 : decode b_G_init 20 = .ok (.aload_n 0, 1) := by decide +kernel
theorem d_G_init_21 : decode b_G_init 21 = .ok (.bipush 6, 2) := by decide +kernel
theorem d_G_init_23 : decode b_G_init 23 = .ok (.newarray .int, 2) := by decide +kernel
theorem d_G_init_25 : decode b_G_init 25 = .ok (.putfield 18, 3) := by decide +kernel
theorem d_G_init_28 : decode b_G_init 28 = .ok (.aload_n 0, 1) := by decide +kernel
theorem d_G_init_29 : decode b_G_init 29 = .ok (.bipush 6, 2) := by decide +kernel
theorem d_G_init_31 : decode b_G_init 31 = .ok (.newarray .int, 2) := by decide +kernel
theorem d_G_init_33 : decode b_G_init 33 = .ok (.putfield 21, 3) := by decide +kernel
theorem d_G_init_36 : decode b_G_init 36 = .ok (.aload_n 0, 1) := by decide +kernel
theorem d_G_init_37 : decode b_G_init 37 = .ok (.iconst 0, 1) := by decide +kernel
theorem d_G_init_38 : decode b_G_init 38 = .ok (.putfield 24, 3) := by decide +kernel
theorem d_G_init_41 : decode b_G_init 41 = .ok (.aload_n 0, 1) := by decide +kernel
theorem d_G_init_42 : decode b_G_init 42 = .ok (.iconst 4, 1) := by decide +kernel
theorem d_G_init_43 : decode b_G_init 43 = .ok (.iconst 4, 1) := by decide +kernel
theorem d_G_init_44 : decode b_G_init 44 = .ok (.multianewarray 28 2, 4) := by decide +kernel
theorem d_G_init_48 : decode b_G_init 48 = .ok (.putfield 30, 3) := by decide +kernel
theorem d_G_init_51 : decode b_G_init 51 = .ok (.aload_n 0, 1) := by decide +kernel
theorem d_G_init_52 : decode b_G_init 52 = .ok (.iconst 4, 1) := by decide +kernel
theorem d_G_init_53 : decode b_G_init 53 = .ok (.iconst 4, 1) := by decide +kernel
theorem d_G_init_54 : decode b_G_init 54 = .ok (.multianewarray 28 2, 4) := by decide +kernel
theorem d_G_init_58 : decode b_G_init 58 = .ok (.putfield 33, 3) := by decide +kernel
theorem d_G_init_61 : decode b_G_init 61 = .ok (.aload_n 0, 1) := by decide +kernel
theorem d_G_init_62 : decode b_G_init 62 = .ok (.lconst 0, 1) := by decide +kernel
theorem d_G_init_63 : decode b_G_init 63 = .ok (.putfield 36, 3) := by decide +kernel
theorem d_G_init_66 : decode b_G_init 66 = .ok (.return_, 1) := by decide +kernel
theorem d_G_has_0 : decode b_G_has 0 = .ok (.iload_n 1, 1) := by decide +kernel
theorem d_G_has_1 : decode b_G_has 1 = .ok (.ifCond .lt 15, 3) := by decide +kernel
theorem d_G_has_4 : decode b_G_has 4 = .ok (.iload_n 1, 1) := by decide +kernel
theorem d_G_has_5 : decode b_G_has 5 = .ok (.aload_n 0, 1) := by decide +kernel
theorem d_G_has_6 : decode b_G_has 6 = .ok (.getfield 24, 3) := by decide +kernel
theorem d_G_has_9 : decode b_G_has 9 = .ok (.if_icmp .ge 7, 3) := by decide +kernel
theorem d_G_has_12 : decode b_G_has 12 = .ok (.iconst 1, 1) := by decide +kernel
theorem d_G_has_13 : decode b_G_has 13 = .ok (.goto 4, 3) := by decide +kernel
theorem d_G_has_16 : decode b_G_has 16 = .ok (.iconst 0, 1) := by decide +kernel
theorem d_G_has_17 : decode b_G_has 17 = .ok (.ireturn, 1) := by decide +kernel
theorem d_G_joins_0 : decode b_G_joins 0 = .ok (.iconst 0, 1) := by decide +kernel
theorem d_G_joins_1 : decode b_G_joins 1 = .ok (.istore_n 3, 1) := by decide +kernel
theorem d_G_joins_2 : decode b_G_joins 2 = .ok (.iload_n 3, 1) := by decide +kernel
theorem d_G_joins_3 : decode b_G_joins 3 = .ok (.aload_n 0, 1) := by decide +kernel
theorem d_G_joins_4 : decode b_G_joins 4 = .ok (.getfield 24, 3) := by decide +kernel
theorem d_G_joins_7 : decode b_G_joins 7 = .ok (.if_icmp .ge 51, 3) := by decide +kernel
theorem d_G_joins_10 : decode b_G_joins 10 = .ok (.aload_n 0, 1) := by decide +kernel
theorem d_G_joins_11 : decode b_G_joins 11 = .ok (.getfield 9, 3) := by decide +kernel
theorem d_G_joins_14 : decode b_G_joins 14 = .ok (.iload_n 3, 1) := by decide +kernel
theorem d_G_joins_15 : decode b_G_joins 15 = .ok (.iaload, 1) := by decide +kernel
theorem d_G_joins_16 : decode b_G_joins 16 = .ok (.iload_n 1, 1) := by decide +kernel
theorem d_G_joins_17 : decode b_G_joins 17 = .ok (.if_icmp .ne 13, 3) := by decide +kernel
theorem d_G_joins_20 : decode b_G_joins 20 = .ok (.aload_n 0, 1) := by decide +kernel
theorem d_G_joins_21 : decode b_G_joins 21 = .ok (.getfield 15, 3) := by decide +kernel
theorem d_G_joins_24 : decode b_G_joins 24 = .ok (.iload_n 3, 1) := by decide +kernel
theorem d_G_joins_25 : decode b_G_joins 25 = .ok (.iaload, 1) := by decide +kernel
theorem d_G_joins_26 : decode b_G_joins 26 = .ok (.iload_n 2, 1) := by decide +kernel
theorem d_G_joins_27 : decode b_G_joins 27 = .ok (.if_icmp .eq 23, 3) := by decide +kernel
theorem d_G_joins_30 : decode b_G_joins 30 = .ok (.aload_n 0, 1) := by decide +kernel
theorem d_G_joins_31 : decode b_G_joins 31 = .ok (.getfield 9, 3) := by decide +kernel
theorem d_G_joins_34 : decode b_G_joins 34 = .ok (.iload_n 3, 1) := by decide +kernel
theorem d_G_joins_35 : decode b_G_joins 35 = .ok (.iaload, 1) := by decide +kernel
theorem d_G_joins_36 : decode b_G_joins 36 = .ok (.iload_n 2, 1) := by decide +kernel
theorem d_G_joins_37 : decode b_G_joins 37 = .ok (.if_icmp .ne 15, 3) := by decide +kernel
theorem d_G_joins_40 : decode b_G_joins 40 = .ok (.aload_n 0, 1) := by decide +kernel
theorem d_G_joins_41 : decode b_G_joins 41 = .ok (.getfield 15, 3) := by decide +kernel
theorem d_G_joins_44 : decode b_G_joins 44 = .ok (.iload_n 3, 1) := by decide +kernel
theorem d_G_joins_45 : decode b_G_joins 45 = .ok (.iaload, 1) := by decide +kernel
theorem d_G_joins_46 : decode b_G_joins 46 = .ok (.iload_n 1, 1) := by decide +kernel
theorem d_G_joins_47 : decode b_G_joins 47 = .ok (.if_icmp .ne 5, 3) := by decide +kernel
theorem d_G_joins_50 : decode b_G_joins 50 = .ok (.iconst 1, 1) := by decide +kernel
theorem d_G_joins_51 : decode b_G_joins 51 = .ok (.ireturn, 1) := by decide +kernel
theorem d_G_joins_52 : decode b_G_joins 52 = .ok (.iinc 3 1, 3) := by decide +kernel
theorem d_G_joins_55 : decode b_G_joins 55 = .ok (.goto (-53), 3) := by decide +kernel
theorem d_G_joins_58 : decode b_G_joins 58 = .ok (.iconst 0, 1) := by decide +kernel
theorem d_G_joins_59 : decode b_G_joins 59 = .ok (.ireturn, 1) := by decide +kernel
theorem d_G_add_0 : decode b_G_add 0 = .ok (.aload_n 0, 1) := by decide +kernel
theorem d_G_add_1 : decode b_G_add 1 = .ok (.getfield 24, 3) := by decide +kernel
theorem d_G_add_4 : decode b_G_add 4 = .ok (.bipush 6, 2) := by decide +kernel
theorem d_G_add_6 : decode b_G_add 6 = .ok (.if_icmp .lt 6, 3) := by decide +kernel
theorem d_G_add_9 : decode b_G_add 9 = .ok (.ldc 40, 2) := by decide +kernel
theorem d_G_add_11 : decode b_G_add 11 = .ok (.ireturn, 1) := by decide +kernel
theorem d_G_add_12 : decode b_G_add 12 = .ok (.aload_n 0, 1) := by decide +kernel
theorem d_G_add_13 : decode b_G_add 13 = .ok (.getfield 9, 3) := by decide +kernel
theorem d_G_add_16 : decode b_G_add 16 = .ok (.aload_n 0, 1) := by decide +kernel
theorem d_G_add_17 : decode b_G_add 17 = .ok (.getfield 24, 3) := by decide +kernel
theorem d_G_add_20 : decode b_G_add 20 = .ok (.iload_n 1, 1) := by decide +kernel
theorem d_G_add_21 : decode b_G_add 21 = .ok (.iastore, 1) := by decide +kernel
theorem d_G_add_22 : decode b_G_add 22 = .ok (.aload_n 0, 1) := by decide +kernel
theorem d_G_add_23 : decode b_G_add 23 = .ok (.getfield 15, 3) := by decide +kernel
theorem d_G_add_26 : decode b_G_add 26 = .ok (.aload_n 0, 1) := by decide +kernel
theorem d_G_add_27 : decode b_G_add 27 = .ok (.getfield 24, 3) := by decide +kernel
theorem d_G_add_30 : decode b_G_add 30 = .ok (.iload_n 2, 1) := by decide +kernel
theorem d_G_add_31 : decode b_G_add 31 = .ok (.iastore, 1) := by decide +kernel
theorem d_G_add_32 : decode b_G_add 32 = .ok (.aload_n 0, 1) := by decide +kernel
theorem d_G_add_33 : decode b_G_add 33 = .ok (.getfield 18, 3) := by decide +kernel
theorem d_G_add_36 : decode b_G_add 36 = .ok (.aload_n 0, 1) := by decide +kernel
theorem d_G_add_37 : decode b_G_add 37 = .ok (.getfield 24, 3) := by decide +kernel
theorem d_G_add_40 : decode b_G_add 40 = .ok (.iload_n 3, 1) := by decide +kernel
theorem d_G_add_41 : decode b_G_add 41 = .ok (.iastore, 1) := by decide +kernel
theorem d_G_add_42 : decode b_G_add 42 = .ok (.aload_n 0, 1) := by decide +kernel
theorem d_G_add_43 : decode b_G_add 43 = .ok (.getfield 21, 3) := by decide +kernel
theorem d_G_add_46 : decode b_G_add 46 = .ok (.aload_n 0, 1) := by decide +kernel
theorem d_G_add_47 : decode b_G_add 47 = .ok (.getfield 24, 3) := by decide +kernel
theorem d_G_add_50 : decode b_G_add 50 = .ok (.iload 4, 2) := by decide +kernel
theorem d_G_add_52 : decode b_G_add 52 = .ok (.iastore, 1) := by decide +kernel
theorem d_G_add_53 : decode b_G_add 53 = .ok (.aload_n 0, 1) := by decide +kernel
theorem d_G_add_54 : decode b_G_add 54 = .ok (.dup, 1) := by decide +kernel
theorem d_G_add_55 : decode b_G_add 55 = .ok (.getfield 24, 3) := by decide +kernel
theorem d_G_add_58 : decode b_G_add 58 = .ok (.iconst 1, 1) := by decide +kernel
theorem d_G_add_59 : decode b_G_add 59 = .ok (.iadd, 1) := by decide +kernel
theorem d_G_add_60 : decode b_G_add 60 = .ok (.putfield 24, 3) := by decide +kernel
theorem d_G_add_63 : decode b_G_add 63 = .ok (.aload_n 0, 1) := by decide +kernel
theorem d_G_add_64 : decode b_G_add 64 = .ok (.getfield 24, 3) := by decide +kernel
theorem d_G_add_67 : decode b_G_add 67 = .ok (.iconst 1, 1) := by decide +kernel
theorem d_G_add_68 : decode b_G_add 68 = .ok (.isub, 1) := by decide +kernel
theorem d_G_add_69 : decode b_G_add 69 = .ok (.ireturn, 1) := by decide +kernel
theorem d_G_remove_0 : decode b_G_remove 0 = .ok (.iload_n 1, 1) := by decide +kernel
theorem d_G_remove_1 : decode b_G_remove 1 = .ok (.istore_n 2, 1) := by decide +kernel
theorem d_G_remove_2 : decode b_G_remove 2 = .ok (.iload_n 2, 1) := by decide +kernel
theorem d_G_remove_3 : decode b_G_remove 3 = .ok (.iconst 1, 1) := by decide +kernel
theorem d_G_remove_4 : decode b_G_remove 4 = .ok (.iadd, 1) := by decide +kernel
theorem d_G_remove_5 : decode b_G_remove 5 = .ok (.aload_n 0, 1) := by decide +kernel
theorem d_G_remove_6 : decode b_G_remove 6 = .ok (.getfield 24, 3) := by decide +kernel
theorem d_G_remove_9 : decode b_G_remove 9 = .ok (.if_icmp .ge 65, 3) := by decide +kernel
theorem d_G_remove_12 : decode b_G_remove 12 = .ok (.aload_n 0, 1) := by decide +kernel
theorem d_G_remove_13 : decode b_G_remove 13 = .ok (.getfield 9, 3) := by decide +kernel
theorem d_G_remove_16 : decode b_G_remove 16 = .ok (.iload_n 2, 1) := by decide +kernel
theorem d_G_remove_17 : decode b_G_remove 17 = .ok (.aload_n 0, 1) := by decide +kernel
theorem d_G_remove_18 : decode b_G_remove 18 = .ok (.getfield 9, 3) := by decide +kernel
theorem d_G_remove_21 : decode b_G_remove 21 = .ok (.iload_n 2, 1) := by decide +kernel
theorem d_G_remove_22 : decode b_G_remove 22 = .ok (.iconst 1, 1) := by decide +kernel
theorem d_G_remove_23 : decode b_G_remove 23 = .ok (.iadd, 1) := by decide +kernel
theorem d_G_remove_24 : decode b_G_remove 24 = .ok (.iaload, 1) := by decide +kernel
theorem d_G_remove_25 : decode b_G_remove 25 = .ok (.iastore, 1) := by decide +kernel
theorem d_G_remove_26 : decode b_G_remove 26 = .ok (.aload_n 0, 1) := by decide +kernel
theorem d_G_remove_27 : decode b_G_remove 27 = .ok (.getfield 15, 3) := by decide +kernel
theorem d_G_remove_30 : decode b_G_remove 30 = .ok (.iload_n 2, 1) := by decide +kernel
theorem d_G_remove_31 : decode b_G_remove 31 = .ok (.aload_n 0, 1) := by decide +kernel
theorem d_G_remove_32 : decode b_G_remove 32 = .ok (.getfield 15, 3) := by decide +kernel
theorem d_G_remove_35 : decode b_G_remove 35 = .ok (.iload_n 2, 1) := by decide +kernel
theorem d_G_remove_36 : decode b_G_remove 36 = .ok (.iconst 1, 1) := by decide +kernel
theorem d_G_remove_37 : decode b_G_remove 37 = .ok (.iadd, 1) := by decide +kernel
theorem d_G_remove_38 : decode b_G_remove 38 = .ok (.iaload, 1) := by decide +kernel
theorem d_G_remove_39 : decode b_G_remove 39 = .ok (.iastore, 1) := by decide +kernel
theorem d_G_remove_40 : decode b_G_remove 40 = .ok (.aload_n 0, 1) := by decide +kernel
theorem d_G_remove_41 : decode b_G_remove 41 = .ok (.getfield 18, 3) := by decide +kernel
theorem d_G_remove_44 : decode b_G_remove 44 = .ok (.iload_n 2, 1) := by decide +kernel
theorem d_G_remove_45 : decode b_G_remove 45 = .ok (.aload_n 0, 1) := by decide +kernel
theorem d_G_remove_46 : decode b_G_remove 46 = .ok (.getfield 18, 3) := by decide +kernel
theorem d_G_remove_49 : decode b_G_remove 49 = .ok (.iload_n 2, 1) := by decide +kernel
theorem d_G_remove_50 : decode b_G_remove 50 = .ok (.iconst 1, 1) := by decide +kernel
theorem d_G_remove_51 : decode b_G_remove 51 = .ok (.iadd, 1) := by decide +kernel
theorem d_G_remove_52 : decode b_G_remove 52 = .ok (.iaload, 1) := by decide +kernel
theorem d_G_remove_53 : decode b_G_remove 53 = .ok (.iastore, 1) := by decide +kernel
theorem d_G_remove_54 : decode b_G_remove 54 = .ok (.aload_n 0, 1) := by decide +kernel
theorem d_G_remove_55 : decode b_G_remove 55 = .ok (.getfield 21, 3) := by decide +kernel
theorem d_G_remove_58 : decode b_G_remove 58 = .ok (.iload_n 2, 1) := by decide +kernel
theorem d_G_remove_59 : decode b_G_remove 59 = .ok (.aload_n 0, 1) := by decide +kernel
theorem d_G_remove_60 : decode b_G_remove 60 = .ok (.getfield 21, 3) := by decide +kernel
theorem d_G_remove_63 : decode b_G_remove 63 = .ok (.iload_n 2, 1) := by decide +kernel
theorem d_G_remove_64 : decode b_G_remove 64 = .ok (.iconst 1, 1) := by decide +kernel
theorem d_G_remove_65 : decode b_G_remove 65 = .ok (.iadd, 1) := by decide +kernel
theorem d_G_remove_66 : decode b_G_remove 66 = .ok (.iaload, 1) := by decide +kernel
theorem d_G_remove_67 : decode b_G_remove 67 = .ok (.iastore, 1) := by decide +kernel
theorem d_G_remove_68 : decode b_G_remove 68 = .ok (.iinc 2 1, 3) := by decide +kernel
theorem d_G_remove_71 : decode b_G_remove 71 = .ok (.goto (-69), 3) := by decide +kernel
theorem d_G_remove_74 : decode b_G_remove 74 = .ok (.aload_n 0, 1) := by decide +kernel
theorem d_G_remove_75 : decode b_G_remove 75 = .ok (.dup, 1) := by decide +kernel
theorem d_G_remove_76 : decode b_G_remove 76 = .ok (.getfield 24, 3) := by decide +kernel
theorem d_G_remove_79 : decode b_G_remove 79 = .ok (.iconst 1, 1) := by decide +kernel
theorem d_G_remove_80 : decode b_G_remove 80 = .ok (.isub, 1) := by decide +kernel
theorem d_G_remove_81 : decode b_G_remove 81 = .ok (.putfield 24, 3) := by decide +kernel
theorem d_G_remove_84 : decode b_G_remove 84 = .ok (.return_, 1) := by decide +kernel
theorem d_G_ground_0 : decode b_G_ground 0 = .ok (.aload_n 0, 1) := by decide +kernel
theorem d_G_ground_1 : decode b_G_ground 1 = .ok (.invokevirtual 41, 3) := by decide +kernel
theorem d_G_ground_4 : decode b_G_ground 4 = .ok (.aload_n 0, 1) := by decide +kernel
theorem d_G_ground_5 : decode b_G_ground 5 = .ok (.lconst 0, 1) := by decide +kernel
theorem d_G_ground_6 : decode b_G_ground 6 = .ok (.putfield 36, 3) := by decide +kernel
theorem d_G_ground_9 : decode b_G_ground 9 = .ok (.iconst 0, 1) := by decide +kernel
theorem d_G_ground_10 : decode b_G_ground 10 = .ok (.istore_n 2, 1) := by decide +kernel
theorem d_G_ground_11 : decode b_G_ground 11 = .ok (.iload_n 2, 1) := by decide +kernel
theorem d_G_ground_12 : decode b_G_ground 12 = .ok (.iconst 4, 1) := by decide +kernel
theorem d_G_ground_13 : decode b_G_ground 13 = .ok (.if_icmp .ge 27, 3) := by decide +kernel
theorem d_G_ground_16 : decode b_G_ground 16 = .ok (.aload_n 0, 1) := by decide +kernel
theorem d_G_ground_17 : decode b_G_ground 17 = .ok (.getfield 33, 3) := by decide +kernel
theorem d_G_ground_20 : decode b_G_ground 20 = .ok (.iload_n 1, 1) := by decide +kernel
theorem d_G_ground_21 : decode b_G_ground 21 = .ok (.aaload, 1) := by decide +kernel
theorem d_G_ground_22 : decode b_G_ground 22 = .ok (.iload_n 2, 1) := by decide +kernel
theorem d_G_ground_23 : decode b_G_ground 23 = .ok (.lconst 0, 1) := by decide +kernel
theorem d_G_ground_24 : decode b_G_ground 24 = .ok (.lastore, 1) := by decide +kernel
theorem d_G_ground_25 : decode b_G_ground 25 = .ok (.aload_n 0, 1) := by decide +kernel
theorem d_G_ground_26 : decode b_G_ground 26 = .ok (.getfield 33, 3) := by decide +kernel
theorem d_G_ground_29 : decode b_G_ground 29 = .ok (.iload_n 2, 1) := by decide +kernel
theorem d_G_ground_30 : decode b_G_ground 30 = .ok (.aaload, 1) := by decide +kernel
theorem d_G_ground_31 : decode b_G_ground 31 = .ok (.iload_n 1, 1) := by decide +kernel
theorem d_G_ground_32 : decode b_G_ground 32 = .ok (.lconst 0, 1) := by decide +kernel
theorem d_G_ground_33 : decode b_G_ground 33 = .ok (.lastore, 1) := by decide +kernel
theorem d_G_ground_34 : decode b_G_ground 34 = .ok (.iinc 2 1, 3) := by decide +kernel
theorem d_G_ground_37 : decode b_G_ground 37 = .ok (.goto (-26), 3) := by decide +kernel
theorem d_G_ground_40 : decode b_G_ground 40 = .ok (.iconst 0, 1) := by decide +kernel
theorem d_G_ground_41 : decode b_G_ground 41 = .ok (.istore_n 2, 1) := by decide +kernel
theorem d_G_ground_42 : decode b_G_ground 42 = .ok (.iload_n 2, 1) := by decide +kernel
theorem d_G_ground_43 : decode b_G_ground 43 = .ok (.iconst 3, 1) := by decide +kernel
theorem d_G_ground_44 : decode b_G_ground 44 = .ok (.if_icmp .ge 45, 3) := by decide +kernel
theorem d_G_ground_47 : decode b_G_ground 47 = .ok (.iconst 0, 1) := by decide +kernel
theorem d_G_ground_48 : decode b_G_ground 48 = .ok (.istore_n 3, 1) := by decide +kernel
theorem d_G_ground_49 : decode b_G_ground 49 = .ok (.iload_n 3, 1) := by decide +kernel
theorem d_G_ground_50 : decode b_G_ground 50 = .ok (.iconst 3, 1) := by decide +kernel
theorem d_G_ground_51 : decode b_G_ground 51 = .ok (.if_icmp .ge 32, 3) := by decide +kernel
theorem d_G_ground_54 : decode b_G_ground 54 = .ok (.aload_n 0, 1) := by decide +kernel
theorem d_G_ground_55 : decode b_G_ground 55 = .ok (.getfield 33, 3) := by decide +kernel
theorem d_G_ground_58 : decode b_G_ground 58 = .ok (.iload_n 1, 1) := by decide +kernel
theorem d_G_ground_59 : decode b_G_ground 59 = .ok (.iload_n 2, 1) := by decide +kernel
theorem d_G_ground_60 : decode b_G_ground 60 = .ok (.invokestatic 44, 3) := by decide +kernel
theorem d_G_ground_63 : decode b_G_ground 63 = .ok (.aaload, 1) := by decide +kernel
theorem d_G_ground_64 : decode b_G_ground 64 = .ok (.iload_n 1, 1) := by decide +kernel
theorem d_G_ground_65 : decode b_G_ground 65 = .ok (.iload_n 3, 1) := by decide +kernel
theorem d_G_ground_66 : decode b_G_ground 66 = .ok (.invokestatic 44, 3) := by decide +kernel
theorem d_G_ground_69 : decode b_G_ground 69 = .ok (.aload_n 0, 1) := by decide +kernel
theorem d_G_ground_70 : decode b_G_ground 70 = .ok (.iload_n 1, 1) := by decide +kernel
theorem d_G_ground_71 : decode b_G_ground 71 = .ok (.iload_n 2, 1) := by decide +kernel
theorem d_G_ground_72 : decode b_G_ground 72 = .ok (.iload_n 3, 1) := by decide +kernel
theorem d_G_ground_73 : decode b_G_ground 73 = .ok (.invokevirtual 48, 3) := by decide +kernel
theorem d_G_ground_76 : decode b_G_ground 76 = .ok (.lastore, 1) := by decide +kernel
theorem d_G_ground_77 : decode b_G_ground 77 = .ok (.iinc 3 1, 3) := by decide +kernel
theorem d_G_ground_80 : decode b_G_ground 80 = .ok (.goto (-31), 3) := by decide +kernel
theorem d_G_ground_83 : decode b_G_ground 83 = .ok (.iinc 2 1, 3) := by decide +kernel
theorem d_G_ground_86 : decode b_G_ground 86 = .ok (.goto (-44), 3) := by decide +kernel
theorem d_G_ground_89 : decode b_G_ground 89 = .ok (.iload_n 1, 1) := by decide +kernel
theorem d_G_ground_90 : decode b_G_ground 90 = .ok (.iconst 0, 1) := by decide +kernel
theorem d_G_ground_91 : decode b_G_ground 91 = .ok (.invokestatic 44, 3) := by decide +kernel
theorem d_G_ground_94 : decode b_G_ground 94 = .ok (.istore_n 2, 1) := by decide +kernel
theorem d_G_ground_95 : decode b_G_ground 95 = .ok (.iconst 0, 1) := by decide +kernel
theorem d_G_ground_96 : decode b_G_ground 96 = .ok (.istore_n 3, 1) := by decide +kernel
theorem d_G_ground_97 : decode b_G_ground 97 = .ok (.iload_n 3, 1) := by decide +kernel
theorem d_G_ground_98 : decode b_G_ground 98 = .ok (.iconst 4, 1) := by decide +kernel
theorem d_G_ground_99 : decode b_G_ground 99 = .ok (.if_icmp .ge 35, 3) := by decide +kernel
theorem d_G_ground_102 : decode b_G_ground 102 = .ok (.aload_n 0, 1) := by decide +kernel
theorem d_G_ground_103 : decode b_G_ground 103 = .ok (.dup, 1) := by decide +kernel
theorem d_G_ground_104 : decode b_G_ground 104 = .ok (.getfield 36, 3) := by decide +kernel
theorem d_G_ground_107 : decode b_G_ground 107 = .ok (.aload_n 0, 1) := by decide +kernel
theorem d_G_ground_108 : decode b_G_ground 108 = .ok (.getfield 30, 3) := by decide +kernel
theorem d_G_ground_111 : decode b_G_ground 111 = .ok (.iload_n 2, 1) := by decide +kernel
theorem d_G_ground_112 : decode b_G_ground 112 = .ok (.aaload, 1) := by decide +kernel
theorem d_G_ground_113 : decode b_G_ground 113 = .ok (.iload_n 3, 1) := by decide +kernel
theorem d_G_ground_114 : decode b_G_ground 114 = .ok (.laload, 1) := by decide +kernel
theorem d_G_ground_115 : decode b_G_ground 115 = .ok (.aload_n 0, 1) := by decide +kernel
theorem d_G_ground_116 : decode b_G_ground 116 = .ok (.getfield 33, 3) := by decide +kernel
theorem d_G_ground_119 : decode b_G_ground 119 = .ok (.iload_n 2, 1) := by decide +kernel
theorem d_G_ground_120 : decode b_G_ground 120 = .ok (.aaload, 1) := by decide +kernel
theorem d_G_ground_121 : decode b_G_ground 121 = .ok (.iload_n 3, 1) := by decide +kernel
theorem d_G_ground_122 : decode b_G_ground 122 = .ok (.laload, 1) := by decide +kernel
theorem d_G_ground_123 : decode b_G_ground 123 = .ok (.lmul, 1) := by decide +kernel
theorem d_G_ground_124 : decode b_G_ground 124 = .ok (.ladd, 1) := by decide +kernel
theorem d_G_ground_125 : decode b_G_ground 125 = .ok (.putfield 36, 3) := by decide +kernel
theorem d_G_ground_128 : decode b_G_ground 128 = .ok (.iinc 3 1, 3) := by decide +kernel
theorem d_G_ground_131 : decode b_G_ground 131 = .ok (.goto (-34), 3) := by decide +kernel
theorem d_G_ground_134 : decode b_G_ground 134 = .ok (.return_, 1) := by decide +kernel
theorem d_G_weighNodes_0 : decode b_G_weighNodes 0 = .ok (.iconst 0, 1) := by decide +kernel
theorem d_G_weighNodes_1 : decode b_G_weighNodes 1 = .ok (.istore_n 1, 1) := by decide +kernel
theorem d_G_weighNodes_2 : decode b_G_weighNodes 2 = .ok (.iload_n 1, 1) := by decide +kernel
theorem d_G_weighNodes_3 : decode b_G_weighNodes 3 = .ok (.iconst 4, 1) := by decide +kernel
theorem d_G_weighNodes_4 : decode b_G_weighNodes 4 = .ok (.if_icmp .ge 31, 3) := by decide +kernel
theorem d_G_weighNodes_7 : decode b_G_weighNodes 7 = .ok (.iconst 0, 1) := by decide +kernel
theorem d_G_weighNodes_8 : decode b_G_weighNodes 8 = .ok (.istore_n 2, 1) := by decide +kernel
theorem d_G_weighNodes_9 : decode b_G_weighNodes 9 = .ok (.iload_n 2, 1) := by decide +kernel
theorem d_G_weighNodes_10 : decode b_G_weighNodes 10 = .ok (.iconst 4, 1) := by decide +kernel
theorem d_G_weighNodes_11 : decode b_G_weighNodes 11 = .ok (.if_icmp .ge 18, 3) := by decide +kernel
theorem d_G_weighNodes_14 : decode b_G_weighNodes 14 = .ok (.aload_n 0, 1) := by decide +kernel
theorem d_G_weighNodes_15 : decode b_G_weighNodes 15 = .ok (.getfield 30, 3) := by decide +kernel
theorem d_G_weighNodes_18 : decode b_G_weighNodes 18 = .ok (.iload_n 1, 1) := by decide +kernel
theorem d_G_weighNodes_19 : decode b_G_weighNodes 19 = .ok (.aaload, 1) := by decide +kernel
theorem d_G_weighNodes_20 : decode b_G_weighNodes 20 = .ok (.iload_n 2, 1) := by decide +kernel
theorem d_G_weighNodes_21 : decode b_G_weighNodes 21 = .ok (.lconst 0, 1) := by decide +kernel
theorem d_G_weighNodes_22 : decode b_G_weighNodes 22 = .ok (.lastore, 1) := by decide +kernel
theorem d_G_weighNodes_23 : decode b_G_weighNodes 23 = .ok (.iinc 2 1, 3) := by decide +kernel
theorem d_G_weighNodes_26 : decode b_G_weighNodes 26 = .ok (.goto (-17), 3) := by decide +kernel
theorem d_G_weighNodes_29 : decode b_G_weighNodes 29 = .ok (.iinc 1 1, 3) := by decide +kernel
theorem d_G_weighNodes_32 : decode b_G_weighNodes 32 = .ok (.goto (-30), 3) := by decide +kernel
theorem d_G_weighNodes_35 : decode b_G_weighNodes 35 = .ok (.iconst 0, 1) := by decide +kernel
theorem d_G_weighNodes_36 : decode b_G_weighNodes 36 = .ok (.istore_n 1, 1) := by decide +kernel
theorem d_G_weighNodes_37 : decode b_G_weighNodes 37 = .ok (.iload_n 1, 1) := by decide +kernel
theorem d_G_weighNodes_38 : decode b_G_weighNodes 38 = .ok (.aload_n 0, 1) := by decide +kernel
theorem d_G_weighNodes_39 : decode b_G_weighNodes 39 = .ok (.getfield 24, 3) := by decide +kernel
theorem d_G_weighNodes_42 : decode b_G_weighNodes 42 = .ok (.if_icmp .ge 95, 3) := by decide +kernel
theorem d_G_weighNodes_45 : decode b_G_weighNodes 45 = .ok (.aload_n 0, 1) := by decide +kernel
theorem d_G_weighNodes_46 : decode b_G_weighNodes 46 = .ok (.getfield 9, 3) := by decide +kernel
theorem d_G_weighNodes_49 : decode b_G_weighNodes 49 = .ok (.iload_n 1, 1) := by decide +kernel
theorem d_G_weighNodes_50 : decode b_G_weighNodes 50 = .ok (.iaload, 1) := by decide +kernel
theorem d_G_weighNodes_51 : decode b_G_weighNodes 51 = .ok (.istore_n 2, 1) := by decide +kernel
theorem d_G_weighNodes_52 : decode b_G_weighNodes 52 = .ok (.aload_n 0, 1) := by decide +kernel
theorem d_G_weighNodes_53 : decode b_G_weighNodes 53 = .ok (.getfield 15, 3) := by decide +kernel
theorem d_G_weighNodes_56 : decode b_G_weighNodes 56 = .ok (.iload_n 1, 1) := by decide +kernel
theorem d_G_weighNodes_57 : decode b_G_weighNodes 57 = .ok (.iaload, 1) := by decide +kernel
theorem d_G_weighNodes_58 : decode b_G_weighNodes 58 = .ok (.istore_n 3, 1) := by decide +kernel
theorem d_G_weighNodes_59 : decode b_G_weighNodes 59 = .ok (.aload_n 0, 1) := by decide +kernel
theorem d_G_weighNodes_60 : decode b_G_weighNodes 60 = .ok (.getfield 30, 3) := by decide +kernel
theorem d_G_weighNodes_63 : decode b_G_weighNodes 63 = .ok (.iload_n 2, 1) := by decide +kernel
theorem d_G_weighNodes_64 : decode b_G_weighNodes 64 = .ok (.aaload, 1) := by decide +kernel
theorem d_G_weighNodes_65 : decode b_G_weighNodes 65 = .ok (.iload_n 2, 1) := by decide +kernel
theorem d_G_weighNodes_66 : decode b_G_weighNodes 66 = .ok (.dup2, 1) := by decide +kernel
theorem d_G_weighNodes_67 : decode b_G_weighNodes 67 = .ok (.laload, 1) := by decide +kernel
theorem d_G_weighNodes_68 : decode b_G_weighNodes 68 = .ok (.aload_n 0, 1) := by decide +kernel
theorem d_G_weighNodes_69 : decode b_G_weighNodes 69 = .ok (.getfield 18, 3) := by decide +kernel
theorem d_G_weighNodes_72 : decode b_G_weighNodes 72 = .ok (.iload_n 1, 1) := by decide +kernel
theorem d_G_weighNodes_73 : decode b_G_weighNodes 73 = .ok (.iaload, 1) := by decide +kernel
theorem d_G_weighNodes_74 : decode b_G_weighNodes 74 = .ok (.i2l, 1) := by decide +kernel
theorem d_G_weighNodes_75 : decode b_G_weighNodes 75 = .ok (.ladd, 1) := by decide +kernel
theorem d_G_weighNodes_76 : decode b_G_weighNodes 76 = .ok (.lastore, 1) := by decide +kernel
theorem d_G_weighNodes_77 : decode b_G_weighNodes 77 = .ok (.aload_n 0, 1) := by decide +kernel
theorem d_G_weighNodes_78 : decode b_G_weighNodes 78 = .ok (.getfield 30, 3) := by decide +kernel
theorem d_G_weighNodes_81 : decode b_G_weighNodes 81 = .ok (.iload_n 3, 1) := by decide +kernel
theorem d_G_weighNodes_82 : decode b_G_weighNodes 82 = .ok (.aaload, 1) := by decide +kernel
theorem d_G_weighNodes_83 : decode b_G_weighNodes 83 = .ok (.iload_n 3, 1) := by decide +kernel
theorem d_G_weighNodes_84 : decode b_G_weighNodes 84 = .ok (.dup2, 1) := by decide +kernel
theorem d_G_weighNodes_85 : decode b_G_weighNodes 85 = .ok (.laload, 1) := by decide +kernel
theorem d_G_weighNodes_86 : decode b_G_weighNodes 86 = .ok (.aload_n 0, 1) := by decide +kernel
theorem d_G_weighNodes_87 : decode b_G_weighNodes 87 = .ok (.getfield 18, 3) := by decide +kernel
theorem d_G_weighNodes_90 : decode b_G_weighNodes 90 = .ok (.iload_n 1, 1) := by decide +kernel
theorem d_G_weighNodes_91 : decode b_G_weighNodes 91 = .ok (.iaload, 1) := by decide +kernel
theorem d_G_weighNodes_92 : decode b_G_weighNodes 92 = .ok (.i2l, 1) := by decide +kernel
theorem d_G_weighNodes_93 : decode b_G_weighNodes 93 = .ok (.ladd, 1) := by decide +kernel
theorem d_G_weighNodes_94 : decode b_G_weighNodes 94 = .ok (.lastore, 1) := by decide +kernel
theorem d_G_weighNodes_95 : decode b_G_weighNodes 95 = .ok (.aload_n 0, 1) := by decide +kernel
theorem d_G_weighNodes_96 : decode b_G_weighNodes 96 = .ok (.getfield 30, 3) := by decide +kernel
theorem d_G_weighNodes_99 : decode b_G_weighNodes 99 = .ok (.iload_n 2, 1) := by decide +kernel
theorem d_G_weighNodes_100 : decode b_G_weighNodes 100 = .ok (.aaload, 1) := by decide +kernel
theorem d_G_weighNodes_101 : decode b_G_weighNodes 101 = .ok (.iload_n 3, 1) := by decide +kernel
theorem d_G_weighNodes_102 : decode b_G_weighNodes 102 = .ok (.dup2, 1) := by decide +kernel
theorem d_G_weighNodes_103 : decode b_G_weighNodes 103 = .ok (.laload, 1) := by decide +kernel
theorem d_G_weighNodes_104 : decode b_G_weighNodes 104 = .ok (.aload_n 0, 1) := by decide +kernel
theorem d_G_weighNodes_105 : decode b_G_weighNodes 105 = .ok (.getfield 18, 3) := by decide +kernel
theorem d_G_weighNodes_108 : decode b_G_weighNodes 108 = .ok (.iload_n 1, 1) := by decide +kernel
theorem d_G_weighNodes_109 : decode b_G_weighNodes 109 = .ok (.iaload, 1) := by decide +kernel
theorem d_G_weighNodes_110 : decode b_G_weighNodes 110 = .ok (.i2l, 1) := by decide +kernel
theorem d_G_weighNodes_111 : decode b_G_weighNodes 111 = .ok (.lsub, 1) := by decide +kernel
theorem d_G_weighNodes_112 : decode b_G_weighNodes 112 = .ok (.lastore, 1) := by decide +kernel
theorem d_G_weighNodes_113 : decode b_G_weighNodes 113 = .ok (.aload_n 0, 1) := by decide +kernel
theorem d_G_weighNodes_114 : decode b_G_weighNodes 114 = .ok (.getfield 30, 3) := by decide +kernel
theorem d_G_weighNodes_117 : decode b_G_weighNodes 117 = .ok (.iload_n 3, 1) := by decide +kernel
theorem d_G_weighNodes_118 : decode b_G_weighNodes 118 = .ok (.aaload, 1) := by decide +kernel
theorem d_G_weighNodes_119 : decode b_G_weighNodes 119 = .ok (.iload_n 2, 1) := by decide +kernel
theorem d_G_weighNodes_120 : decode b_G_weighNodes 120 = .ok (.dup2, 1) := by decide +kernel
theorem d_G_weighNodes_121 : decode b_G_weighNodes 121 = .ok (.laload, 1) := by decide +kernel
theorem d_G_weighNodes_122 : decode b_G_weighNodes 122 = .ok (.aload_n 0, 1) := by decide +kernel
theorem d_G_weighNodes_123 : decode b_G_weighNodes 123 = .ok (.getfield 18, 3) := by decide +kernel
theorem d_G_weighNodes_126 : decode b_G_weighNodes 126 = .ok (.iload_n 1, 1) := by decide +kernel
theorem d_G_weighNodes_127 : decode b_G_weighNodes 127 = .ok (.iaload, 1) := by decide +kernel
theorem d_G_weighNodes_128 : decode b_G_weighNodes 128 = .ok (.i2l, 1) := by decide +kernel
theorem d_G_weighNodes_129 : decode b_G_weighNodes 129 = .ok (.lsub, 1) := by decide +kernel
theorem d_G_weighNodes_130 : decode b_G_weighNodes 130 = .ok (.lastore, 1) := by decide +kernel
theorem d_G_weighNodes_131 : decode b_G_weighNodes 131 = .ok (.iinc 1 1, 3) := by decide +kernel
theorem d_G_weighNodes_134 : decode b_G_weighNodes 134 = .ok (.goto (-97), 3) := by decide +kernel
theorem d_G_weighNodes_137 : decode b_G_weighNodes 137 = .ok (.return_, 1) := by decide +kernel
theorem d_G_beside_0 : decode b_G_beside 0 = .ok (.iload_n 0, 1) := by decide +kernel
theorem d_G_beside_1 : decode b_G_beside 1 = .ok (.iconst 1, 1) := by decide +kernel
theorem d_G_beside_2 : decode b_G_beside 2 = .ok (.iadd, 1) := by decide +kernel
theorem d_G_beside_3 : decode b_G_beside 3 = .ok (.iload_n 1, 1) := by decide +kernel
theorem d_G_beside_4 : decode b_G_beside 4 = .ok (.iconst 3, 1) := by decide +kernel
theorem d_G_beside_5 : decode b_G_beside 5 = .ok (.irem, 1) := by decide +kernel
theorem d_G_beside_6 : decode b_G_beside 6 = .ok (.iadd, 1) := by decide +kernel
theorem d_G_beside_7 : decode b_G_beside 7 = .ok (.iconst 4, 1) := by decide +kernel
theorem d_G_beside_8 : decode b_G_beside 8 = .ok (.irem, 1) := by decide +kernel
theorem d_G_beside_9 : decode b_G_beside 9 = .ok (.ireturn, 1) := by decide +kernel
theorem d_G_cofactor_0 : decode b_G_cofactor 0 = .ok (.iload_n 1, 1) := by decide +kernel
theorem d_G_cofactor_1 : decode b_G_cofactor 1 = .ok (.iload_n 2, 1) := by decide +kernel
theorem d_G_cofactor_2 : decode b_G_cofactor 2 = .ok (.iconst 1, 1) := by decide +kernel
theorem d_G_cofactor_3 : decode b_G_cofactor 3 = .ok (.iadd, 1) := by decide +kernel
theorem d_G_cofactor_4 : decode b_G_cofactor 4 = .ok (.invokestatic 44, 3) := by decide +kernel
theorem d_G_cofactor_7 : decode b_G_cofactor 7 = .ok (.istore 4, 2) := by decide +kernel
theorem d_G_cofactor_9 : decode b_G_cofactor 9 = .ok (.iload_n 1, 1) := by decide +kernel
theorem d_G_cofactor_10 : decode b_G_cofactor 10 = .ok (.iload_n 2, 1) := by decide +kernel
theorem d_G_cofactor_11 : decode b_G_cofactor 11 = .ok (.iconst 2, 1) := by decide +kernel
theorem d_G_cofactor_12 : decode b_G_cofactor 12 = .ok (.iadd, 1) := by decide +kernel
theorem d_G_cofactor_13 : decode b_G_cofactor 13 = .ok (.invokestatic 44, 3) := by decide +kernel
theorem d_G_cofactor_16 : decode b_G_cofactor 16 = .ok (.istore 5, 2) := by decide +kernel
theorem d_G_cofactor_18 : decode b_G_cofactor 18 = .ok (.iload_n 1, 1) := by decide +kernel
theorem d_G_cofactor_19 : decode b_G_cofactor 19 = .ok (.iload_n 3, 1) := by decide +kernel
theorem d_G_cofactor_20 : decode b_G_cofactor 20 = .ok (.iconst 1, 1) := by decide +kernel
theorem d_G_cofactor_21 : decode b_G_cofactor 21 = .ok (.iadd, 1) := by decide +kernel
theorem d_G_cofactor_22 : decode b_G_cofactor 22 = .ok (.invokestatic 44, 3) := by decide +kernel
theorem d_G_cofactor_25 : decode b_G_cofactor 25 = .ok (.istore 6, 2) := by decide +kernel
theorem d_G_cofactor_27 : decode b_G_cofactor 27 = .ok (.iload_n 1, 1) := by decide +kernel
theorem d_G_cofactor_28 : decode b_G_cofactor 28 = .ok (.iload_n 3, 1) := by decide +kernel
theorem d_G_cofactor_29 : decode b_G_cofactor 29 = .ok (.iconst 2, 1) := by decide +kernel
theorem d_G_cofactor_30 : decode b_G_cofactor 30 = .ok (.iadd, 1) := by decide +kernel
theorem d_G_cofactor_31 : decode b_G_cofactor 31 = .ok (.invokestatic 44, 3) := by decide +kernel
theorem d_G_cofactor_34 : decode b_G_cofactor 34 = .ok (.istore 7, 2) := by decide +kernel
theorem d_G_cofactor_36 : decode b_G_cofactor 36 = .ok (.aload_n 0, 1) := by decide +kernel
theorem d_G_cofactor_37 : decode b_G_cofactor 37 = .ok (.getfield 30, 3) := by decide +kernel
theorem d_G_cofactor_40 : decode b_G_cofactor 40 = .ok (.iload 4, 2) := by decide +kernel
theorem d_G_cofactor_42 : decode b_G_cofactor 42 = .ok (.aaload, 1) := by decide +kernel
theorem d_G_cofactor_43 : decode b_G_cofactor 43 = .ok (.iload 6, 2) := by decide +kernel
theorem d_G_cofactor_45 : decode b_G_cofactor 45 = .ok (.laload, 1) := by decide +kernel
theorem d_G_cofactor_46 : decode b_G_cofactor 46 = .ok (.aload_n 0, 1) := by decide +kernel
theorem d_G_cofactor_47 : decode b_G_cofactor 47 = .ok (.getfield 30, 3) := by decide +kernel
theorem d_G_cofactor_50 : decode b_G_cofactor 50 = .ok (.iload 5, 2) := by decide +kernel
theorem d_G_cofactor_52 : decode b_G_cofactor 52 = .ok (.aaload, 1) := by decide +kernel
theorem d_G_cofactor_53 : decode b_G_cofactor 53 = .ok (.iload 7, 2) := by decide +kernel
theorem d_G_cofactor_55 : decode b_G_cofactor 55 = .ok (.laload, 1) := by decide +kernel
theorem d_G_cofactor_56 : decode b_G_cofactor 56 = .ok (.lmul, 1) := by decide +kernel
theorem d_G_cofactor_57 : decode b_G_cofactor 57 = .ok (.aload_n 0, 1) := by decide +kernel
theorem d_G_cofactor_58 : decode b_G_cofactor 58 = .ok (.getfield 30, 3) := by decide +kernel
theorem d_G_cofactor_61 : decode b_G_cofactor 61 = .ok (.iload 4, 2) := by decide +kernel
theorem d_G_cofactor_63 : decode b_G_cofactor 63 = .ok (.aaload, 1) := by decide +kernel
theorem d_G_cofactor_64 : decode b_G_cofactor 64 = .ok (.iload 7, 2) := by decide +kernel
theorem d_G_cofactor_66 : decode b_G_cofactor 66 = .ok (.laload, 1) := by decide +kernel
theorem d_G_cofactor_67 : decode b_G_cofactor 67 = .ok (.aload_n 0, 1) := by decide +kernel
theorem d_G_cofactor_68 : decode b_G_cofactor 68 = .ok (.getfield 30, 3) := by decide +kernel
theorem d_G_cofactor_71 : decode b_G_cofactor 71 = .ok (.iload 5, 2) := by decide +kernel
theorem d_G_cofactor_73 : decode b_G_cofactor 73 = .ok (.aaload, 1) := by decide +kernel
theorem d_G_cofactor_74 : decode b_G_cofactor 74 = .ok (.iload 6, 2) := by decide +kernel
theorem d_G_cofactor_76 : decode b_G_cofactor 76 = .ok (.laload, 1) := by decide +kernel
theorem d_G_cofactor_77 : decode b_G_cofactor 77 = .ok (.lmul, 1) := by decide +kernel
theorem d_G_cofactor_78 : decode b_G_cofactor 78 = .ok (.lsub, 1) := by decide +kernel
theorem d_G_cofactor_79 : decode b_G_cofactor 79 = .ok (.lreturn, 1) := by decide +kernel
theorem d_G_share_0 : decode b_G_share 0 = .ok (.aload_n 0, 1) := by decide +kernel
theorem d_G_share_1 : decode b_G_share 1 = .ok (.getfield 18, 3) := by decide +kernel
theorem d_G_share_4 : decode b_G_share 4 = .ok (.iload_n 1, 1) := by decide +kernel
theorem d_G_share_5 : decode b_G_share 5 = .ok (.iaload, 1) := by decide +kernel
theorem d_G_share_6 : decode b_G_share 6 = .ok (.i2l, 1) := by decide +kernel
theorem d_G_share_7 : decode b_G_share 7 = .ok (.aload_n 0, 1) := by decide +kernel
theorem d_G_share_8 : decode b_G_share 8 = .ok (.getfield 33, 3) := by decide +kernel
theorem d_G_share_11 : decode b_G_share 11 = .ok (.aload_n 0, 1) := by decide +kernel
theorem d_G_share_12 : decode b_G_share 12 = .ok (.getfield 15, 3) := by decide +kernel
theorem d_G_share_15 : decode b_G_share 15 = .ok (.iload_n 1, 1) := by decide +kernel
theorem d_G_share_16 : decode b_G_share 16 = .ok (.iaload, 1) := by decide +kernel
theorem d_G_share_17 : decode b_G_share 17 = .ok (.aaload, 1) := by decide +kernel
theorem d_G_share_18 : decode b_G_share 18 = .ok (.iload_n 2, 1) := by decide +kernel
theorem d_G_share_19 : decode b_G_share 19 = .ok (.laload, 1) := by decide +kernel
theorem d_G_share_20 : decode b_G_share 20 = .ok (.aload_n 0, 1) := by decide +kernel
theorem d_G_share_21 : decode b_G_share 21 = .ok (.getfield 33, 3) := by decide +kernel
theorem d_G_share_24 : decode b_G_share 24 = .ok (.aload_n 0, 1) := by decide +kernel
theorem d_G_share_25 : decode b_G_share 25 = .ok (.getfield 9, 3) := by decide +kernel
theorem d_G_share_28 : decode b_G_share 28 = .ok (.iload_n 1, 1) := by decide +kernel
theorem d_G_share_29 : decode b_G_share 29 = .ok (.iaload, 1) := by decide +kernel
theorem d_G_share_30 : decode b_G_share 30 = .ok (.aaload, 1) := by decide +kernel
theorem d_G_share_31 : decode b_G_share 31 = .ok (.iload_n 2, 1) := by decide +kernel
theorem d_G_share_32 : decode b_G_share 32 = .ok (.laload, 1) := by decide +kernel
theorem d_G_share_33 : decode b_G_share 33 = .ok (.lsub, 1) := by decide +kernel
theorem d_G_share_34 : decode b_G_share 34 = .ok (.lmul, 1) := by decide +kernel
theorem d_G_share_35 : decode b_G_share 35 = .ok (.lreturn, 1) := by decide +kernel
theorem d_O_init_0 : decode b_O_init 0 = .ok (.aload_n 0, 1) := by decide +kernel
theorem d_O_init_1 : decode b_O_init 1 = .ok (.invokespecial 3, 3) := by decide +kernel
theorem d_O_init_4 : decode b_O_init 4 = .ok (.aload_n 0, 1) := by decide +kernel
theorem d_O_init_5 : decode b_O_init 5 = .ok (.bipush 8, 2) := by decide +kernel
theorem d_O_init_7 : decode b_O_init 7 = .ok (.newarray .int, 2) := by decide +kernel
theorem d_O_init_9 : decode b_O_init 9 = .ok (.putfield 9, 3) := by decide +kernel
theorem d_O_init_12 : decode b_O_init 12 = .ok (.aload_n 0, 1) := by decide +kernel
theorem d_O_init_13 : decode b_O_init 13 = .ok (.bipush 6, 2) := by decide +kernel
theorem d_O_init_15 : decode b_O_init 15 = .ok (.newarray .int, 2) := by decide +kernel
theorem d_O_init_17 : decode b_O_init 17 = .ok (.putfield 15, 3) := by decide +kernel
theorem d_O_init_20 : decode b_O_init 20 = .ok (.aload_n 0, 1) := by decide +kernel
theorem d_O_init_21 : decode b_O_init 21 = .ok (.iconst 0, 1) := by decide +kernel
theorem d_O_init_22 : decode b_O_init 22 = .ok (.putfield 18, 3) := by decide +kernel
theorem d_O_init_25 : decode b_O_init 25 = .ok (.aload_n 0, 1) := by decide +kernel
theorem d_O_init_26 : decode b_O_init 26 = .ok (.iconst 1, 1) := by decide +kernel
theorem d_O_init_27 : decode b_O_init 27 = .ok (.putfield 22, 3) := by decide +kernel
theorem d_O_init_30 : decode b_O_init 30 = .ok (.aload_n 0, 1) := by decide +kernel
theorem d_O_init_31 : decode b_O_init 31 = .ok (.lconst 0, 1) := by decide +kernel
theorem d_O_init_32 : decode b_O_init 32 = .ok (.putfield 26, 3) := by decide +kernel
theorem d_O_init_35 : decode b_O_init 35 = .ok (.return_, 1) := by decide +kernel
theorem d_O_take_0 : decode b_O_take 0 = .ok (.aload_n 1, 1) := by decide +kernel
theorem d_O_take_1 : decode b_O_take 1 = .ok (.getfield 30, 3) := by decide +kernel
theorem d_O_take_4 : decode b_O_take 4 = .ok (.lstore 4, 2) := by decide +kernel
theorem d_O_take_6 : decode b_O_take 6 = .ok (.iconst 0, 1) := by decide +kernel
theorem d_O_take_7 : decode b_O_take 7 = .ok (.istore 6, 2) := by decide +kernel
theorem d_O_take_9 : decode b_O_take 9 = .ok (.iload 6, 2) := by decide +kernel
theorem d_O_take_11 : decode b_O_take 11 = .ok (.aload_n 3, 1) := by decide +kernel
theorem d_O_take_12 : decode b_O_take 12 = .ok (.getfield 35, 3) := by decide +kernel
theorem d_O_take_15 : decode b_O_take 15 = .ok (.if_icmp .ge 22, 3) := by decide +kernel
theorem d_O_take_18 : decode b_O_take 18 = .ok (.lload 4, 2) := by decide +kernel
theorem d_O_take_20 : decode b_O_take 20 = .ok (.aload_n 1, 1) := by decide +kernel
theorem d_O_take_21 : decode b_O_take 21 = .ok (.iload 6, 2) := by decide +kernel
theorem d_O_take_23 : decode b_O_take 23 = .ok (.invokevirtual 40, 3) := by decide +kernel
theorem d_O_take_26 : decode b_O_take 26 = .ok (.invokestatic 44, 3) := by decide +kernel
theorem d_O_take_29 : decode b_O_take 29 = .ok (.lstore 4, 2) := by decide +kernel
theorem d_O_take_31 : decode b_O_take 31 = .ok (.iinc 6 1, 3) := by decide +kernel
theorem d_O_take_34 : decode b_O_take 34 = .ok (.goto (-25), 3) := by decide +kernel
theorem d_O_take_37 : decode b_O_take 37 = .ok (.iconst 0, 1) := by decide +kernel
theorem d_O_take_38 : decode b_O_take 38 = .ok (.istore 6, 2) := by decide +kernel
theorem d_O_take_40 : decode b_O_take 40 = .ok (.iload 6, 2) := by decide +kernel
theorem d_O_take_42 : decode b_O_take 42 = .ok (.aload_n 2, 1) := by decide +kernel
theorem d_O_take_43 : decode b_O_take 43 = .ok (.getfield 48, 3) := by decide +kernel
theorem d_O_take_46 : decode b_O_take 46 = .ok (.if_icmp .ge 25, 3) := by decide +kernel
theorem d_O_take_49 : decode b_O_take 49 = .ok (.lload 4, 2) := by decide +kernel
theorem d_O_take_51 : decode b_O_take 51 = .ok (.aload_n 1, 1) := by decide +kernel
theorem d_O_take_52 : decode b_O_take 52 = .ok (.bipush 9, 2) := by decide +kernel
theorem d_O_take_54 : decode b_O_take 54 = .ok (.iload 6, 2) := by decide +kernel
theorem d_O_take_56 : decode b_O_take 56 = .ok (.iadd, 1) := by decide +kernel
theorem d_O_take_57 : decode b_O_take 57 = .ok (.invokevirtual 40, 3) := by decide +kernel
theorem d_O_take_60 : decode b_O_take 60 = .ok (.invokestatic 44, 3) := by decide +kernel
theorem d_O_take_63 : decode b_O_take 63 = .ok (.lstore 4, 2) := by decide +kernel
theorem d_O_take_65 : decode b_O_take 65 = .ok (.iinc 6 1, 3) := by decide +kernel
theorem d_O_take_68 : decode b_O_take 68 = .ok (.goto (-28), 3) := by decide +kernel
theorem d_O_take_71 : decode b_O_take 71 = .ok (.lload 4, 2) := by decide +kernel
theorem d_O_take_73 : decode b_O_take 73 = .ok (.lconst 0, 1) := by decide +kernel
theorem d_O_take_74 : decode b_O_take 74 = .ok (.lcmp, 1) := by decide +kernel
theorem d_O_take_75 : decode b_O_take 75 = .ok (.ifCond .ne 4, 3) := by decide +kernel
theorem d_O_take_78 : decode b_O_take 78 = .ok (.return_, 1) := by decide +kernel
theorem d_O_take_79 : decode b_O_take 79 = .ok (.aload_n 0, 1) := by decide +kernel
theorem d_O_take_80 : decode b_O_take 80 = .ok (.aload_n 1, 1) := by decide +kernel
theorem d_O_take_81 : decode b_O_take 81 = .ok (.getfield 30, 3) := by decide +kernel
theorem d_O_take_84 : decode b_O_take 84 = .ok (.lload 4, 2) := by decide +kernel
theorem d_O_take_86 : decode b_O_take 86 = .ok (.ldiv, 1) := by decide +kernel
theorem d_O_take_87 : decode b_O_take 87 = .ok (.l2i, 1) := by decide +kernel
theorem d_O_take_88 : decode b_O_take 88 = .ok (.putfield 22, 3) := by decide +kernel
theorem d_O_take_91 : decode b_O_take 91 = .ok (.aload_n 0, 1) := by decide +kernel
theorem d_O_take_92 : decode b_O_take 92 = .ok (.aload_n 1, 1) := by decide +kernel
theorem d_O_take_93 : decode b_O_take 93 = .ok (.bipush 15, 2) := by decide +kernel
theorem d_O_take_95 : decode b_O_take 95 = .ok (.invokevirtual 40, 3) := by decide +kernel
theorem d_O_take_98 : decode b_O_take 98 = .ok (.lload 4, 2) := by decide +kernel
theorem d_O_take_100 : decode b_O_take 100 = .ok (.ldiv, 1) := by decide +kernel
theorem d_O_take_101 : decode b_O_take 101 = .ok (.putfield 26, 3) := by decide +kernel
theorem d_O_take_104 : decode b_O_take 104 = .ok (.iconst 0, 1) := by decide +kernel
theorem d_O_take_105 : decode b_O_take 105 = .ok (.istore 6, 2) := by decide +kernel
theorem d_O_take_107 : decode b_O_take 107 = .ok (.iload 6, 2) := by decide +kernel
theorem d_O_take_109 : decode b_O_take 109 = .ok (.aload_n 3, 1) := by decide +kernel
theorem d_O_take_110 : decode b_O_take 110 = .ok (.getfield 35, 3) := by decide +kernel
theorem d_O_take_113 : decode b_O_take 113 = .ok (.if_icmp .ge 26, 3) := by decide +kernel
theorem d_O_take_116 : decode b_O_take 116 = .ok (.aload_n 0, 1) := by decide +kernel
theorem d_O_take_117 : decode b_O_take 117 = .ok (.getfield 9, 3) := by decide +kernel
theorem d_O_take_120 : decode b_O_take 120 = .ok (.iload 6, 2) := by decide +kernel
theorem d_O_take_122 : decode b_O_take 122 = .ok (.aload_n 1, 1) := by decide +kernel
theorem d_O_take_123 : decode b_O_take 123 = .ok (.iload 6, 2) := by decide +kernel
theorem d_O_take_125 : decode b_O_take 125 = .ok (.invokevirtual 40, 3) := by decide +kernel
theorem d_O_take_128 : decode b_O_take 128 = .ok (.lload 4, 2) := by decide +kernel
theorem d_O_take_130 : decode b_O_take 130 = .ok (.ldiv, 1) := by decide +kernel
theorem d_O_take_131 : decode b_O_take 131 = .ok (.l2i, 1) := by decide +kernel
theorem d_O_take_132 : decode b_O_take 132 = .ok (.iastore, 1) := by decide +kernel
theorem d_O_take_133 : decode b_O_take 133 = .ok (.iinc 6 1, 3) := by decide +kernel
theorem d_O_take_136 : decode b_O_take 136 = .ok (.goto (-29), 3) := by decide +kernel
theorem d_O_take_139 : decode b_O_take 139 = .ok (.iconst 0, 1) := by decide +kernel
theorem d_O_take_140 : decode b_O_take 140 = .ok (.istore 6, 2) := by decide +kernel
theorem d_O_take_142 : decode b_O_take 142 = .ok (.iload 6, 2) := by decide +kernel
theorem d_O_take_144 : decode b_O_take 144 = .ok (.aload_n 2, 1) := by decide +kernel
theorem d_O_take_145 : decode b_O_take 145 = .ok (.getfield 48, 3) := by decide +kernel
theorem d_O_take_148 : decode b_O_take 148 = .ok (.if_icmp .ge 29, 3) := by decide +kernel
theorem d_O_take_151 : decode b_O_take 151 = .ok (.aload_n 0, 1) := by decide +kernel
theorem d_O_take_152 : decode b_O_take 152 = .ok (.getfield 15, 3) := by decide +kernel
theorem d_O_take_155 : decode b_O_take 155 = .ok (.iload 6, 2) := by decide +kernel
theorem d_O_take_157 : decode b_O_take 157 = .ok (.aload_n 1, 1) := by decide +kernel
theorem d_O_take_158 : decode b_O_take 158 = .ok (.bipush 9, 2) := by decide +kernel
theorem d_O_take_160 : decode b_O_take 160 = .ok (.iload 6, 2) := by decide +kernel
theorem d_O_take_162 : decode b_O_take 162 = .ok (.iadd, 1) := by decide +kernel
theorem d_O_take_163 : decode b_O_take 163 = .ok (.invokevirtual 40, 3) := by decide +kernel
theorem d_O_take_166 : decode b_O_take 166 = .ok (.lload 4, 2) := by decide +kernel
theorem d_O_take_168 : decode b_O_take 168 = .ok (.ldiv, 1) := by decide +kernel
theorem d_O_take_169 : decode b_O_take 169 = .ok (.l2i, 1) := by decide +kernel
theorem d_O_take_170 : decode b_O_take 170 = .ok (.iastore, 1) := by decide +kernel
theorem d_O_take_171 : decode b_O_take 171 = .ok (.iinc 6 1, 3) := by decide +kernel
theorem d_O_take_174 : decode b_O_take 174 = .ok (.goto (-32), 3) := by decide +kernel
theorem d_O_take_177 : decode b_O_take 177 = .ok (.aload_n 0, 1) := by decide +kernel
theorem d_O_take_178 : decode b_O_take 178 = .ok (.iconst 1, 1) := by decide +kernel
theorem d_O_take_179 : decode b_O_take 179 = .ok (.putfield 18, 3) := by decide +kernel
theorem d_O_take_182 : decode b_O_take 182 = .ok (.return_, 1) := by decide +kernel
theorem d_O_taken_0 : decode b_O_taken 0 = .ok (.iconst 0, 1) := by decide +kernel
theorem d_O_taken_1 : decode b_O_taken 1 = .ok (.istore_n 2, 1) := by decide +kernel
theorem d_O_taken_2 : decode b_O_taken 2 = .ok (.iconst 0, 1) := by decide +kernel
theorem d_O_taken_3 : decode b_O_taken 3 = .ok (.istore_n 3, 1) := by decide +kernel
theorem d_O_taken_4 : decode b_O_taken 4 = .ok (.iload_n 3, 1) := by decide +kernel
theorem d_O_taken_5 : decode b_O_taken 5 = .ok (.iload_n 1, 1) := by decide +kernel
theorem d_O_taken_6 : decode b_O_taken 6 = .ok (.if_icmp .ge 21, 3) := by decide +kernel
theorem d_O_taken_9 : decode b_O_taken 9 = .ok (.aload_n 0, 1) := by decide +kernel
theorem d_O_taken_10 : decode b_O_taken 10 = .ok (.getfield 9, 3) := by decide +kernel
theorem d_O_taken_13 : decode b_O_taken 13 = .ok (.iload_n 3, 1) := by decide +kernel
theorem d_O_taken_14 : decode b_O_taken 14 = .ok (.iaload, 1) := by decide +kernel
theorem d_O_taken_15 : decode b_O_taken 15 = .ok (.ifCond .le 6, 3) := by decide +kernel
theorem d_O_taken_18 : decode b_O_taken 18 = .ok (.iinc 2 1, 3) := by decide +kernel
theorem d_O_taken_21 : decode b_O_taken 21 = .ok (.iinc 3 1, 3) := by decide +kernel
theorem d_O_taken_24 : decode b_O_taken 24 = .ok (.goto (-20), 3) := by decide +kernel
theorem d_O_taken_27 : decode b_O_taken 27 = .ok (.iload_n 2, 1) := by decide +kernel
theorem d_O_taken_28 : decode b_O_taken 28 = .ok (.ireturn, 1) := by decide +kernel
