theorem d_N_init_0 : decode b_N_init 0 = .ok (.aload_n 0, 1) := by decide +kernel
theorem d_N_init_1 : decode b_N_init 1 = .ok (.invokespecial 3, 3) := by decide +kernel
theorem d_N_init_4 : decode b_N_init 4 = .ok (.aload_n 0, 1) := by decide +kernel
theorem d_N_init_5 : decode b_N_init 5 = .ok (.new 9, 3) := by decide +kernel
theorem d_N_init_8 : decode b_N_init 8 = .ok (.dup, 1) := by decide +kernel
theorem d_N_init_9 : decode b_N_init 9 = .ok (.invokespecial 11, 3) := by decide +kernel
theorem d_N_init_12 : decode b_N_init 12 = .ok (.putfield 12, 3) := by decide +kernel
theorem d_N_init_15 : decode b_N_init 15 = .ok (.aload_n 0, 1) := by decide +kernel
theorem d_N_init_16 : decode b_N_init 16 = .ok (.new 16, 3) := by decide +kernel
theorem d_N_init_19 : decode b_N_init 19 = .ok (.dup, 1) := by decide +kernel
theorem d_N_init_20 : decode b_N_init 20 = .ok (.invokespecial 18, 3) := by decide +kernel
theorem d_N_init_23 : decode b_N_init 23 = .ok (.putfield 19, 3) := by decide +kernel
theorem d_N_init_26 : decode b_N_init 26 = .ok (.aload_n 0, 1) := by decide +kernel
theorem d_N_init_27 : decode b_N_init 27 = .ok (.new 16, 3) := by decide +kernel
theorem d_N_init_30 : decode b_N_init 30 = .ok (.dup, 1) := by decide +kernel
theorem d_N_init_31 : decode b_N_init 31 = .ok (.invokespecial 18, 3) := by decide +kernel
theorem d_N_init_34 : decode b_N_init 34 = .ok (.putfield 23, 3) := by decide +kernel
theorem d_N_init_37 : decode b_N_init 37 = .ok (.aload_n 0, 1) := by decide +kernel
theorem d_N_init_38 : decode b_N_init 38 = .ok (.new 26, 3) := by decide +kernel
theorem d_N_init_41 : decode b_N_init 41 = .ok (.dup, 1) := by decide +kernel
theorem d_N_init_42 : decode b_N_init 42 = .ok (.invokespecial 28, 3) := by decide +kernel
theorem d_N_init_45 : decode b_N_init 45 = .ok (.putfield 29, 3) := by decide +kernel
theorem d_N_init_48 : decode b_N_init 48 = .ok (.aload_n 0, 1) := by decide +kernel
theorem d_N_init_49 : decode b_N_init 49 = .ok (.new 33, 3) := by decide +kernel
theorem d_N_init_52 : decode b_N_init 52 = .ok (.dup, 1) := by decide +kernel
theorem d_N_init_53 : decode b_N_init 53 = .ok (.invokespecial 35, 3) := by decide +kernel
theorem d_N_init_56 : decode b_N_init 56 = .ok (.putfield 36, 3) := by decide +kernel
theorem d_N_init_59 : decode b_N_init 59 = .ok (.aload_n 0, 1) := by decide +kernel
theorem d_N_init_60 : decode b_N_init 60 = .ok (.iconst 4, 1) := by decide +kernel
theorem d_N_init_61 : decode b_N_init 61 = .ok (.newarray .int, 2) := by decide +kernel
theorem d_N_init_63 : decode b_N_init 63 = .ok (.putfield 40, 3) := by decide +kernel
theorem d_N_init_66 : decode b_N_init 66 = .ok (.return_, 1) := by decide +kernel
theorem d_N_line_0 : decode b_N_line 0 = .ok (.iload_n 1, 1) := by decide +kernel
theorem d_N_line_1 : decode b_N_line 1 = .ok (.invokestatic 44, 3) := by decide +kernel
theorem d_N_line_4 : decode b_N_line 4 = .ok (.ifCond .eq 27, 3) := by decide +kernel
theorem d_N_line_7 : decode b_N_line 7 = .ok (.iload_n 2, 1) := by decide +kernel
theorem d_N_line_8 : decode b_N_line 8 = .ok (.invokestatic 44, 3) := by decide +kernel
theorem d_N_line_11 : decode b_N_line 11 = .ok (.ifCond .eq 20, 3) := by decide +kernel
theorem d_N_line_14 : decode b_N_line 14 = .ok (.iload_n 1, 1) := by decide +kernel
theorem d_N_line_15 : decode b_N_line 15 = .ok (.iload_n 2, 1) := by decide +kernel
theorem d_N_line_16 : decode b_N_line 16 = .ok (.if_icmp .eq 15, 3) := by decide +kernel
theorem d_N_line_19 : decode b_N_line 19 = .ok (.aload_n 0, 1) := by decide +kernel
theorem d_N_line_20 : decode b_N_line 20 = .ok (.getfield 12, 3) := by decide +kernel
theorem d_N_line_23 : decode b_N_line 23 = .ok (.iload_n 1, 1) := by decide +kernel
theorem d_N_line_24 : decode b_N_line 24 = .ok (.iload_n 2, 1) := by decide +kernel
theorem d_N_line_25 : decode b_N_line 25 = .ok (.invokevirtual 48, 3) := by decide +kernel
theorem d_N_line_28 : decode b_N_line 28 = .ok (.ifCond .eq 6, 3) := by decide +kernel
theorem d_N_line_31 : decode b_N_line 31 = .ok (.ldc 52, 2) := by decide +kernel
theorem d_N_line_33 : decode b_N_line 33 = .ok (.ireturn, 1) := by decide +kernel
theorem d_N_line_34 : decode b_N_line 34 = .ok (.iload_n 3, 1) := by decide +kernel
theorem d_N_line_35 : decode b_N_line 35 = .ok (.iconst 1, 1) := by decide +kernel
theorem d_N_line_36 : decode b_N_line 36 = .ok (.iconst 5, 1) := by decide +kernel
theorem d_N_line_37 : decode b_N_line 37 = .ok (.invokestatic 53, 3) := by decide +kernel
theorem d_N_line_40 : decode b_N_line 40 = .ok (.ifCond .eq 15, 3) := by decide +kernel
theorem d_N_line_43 : decode b_N_line 43 = .ok (.iload 4, 2) := by decide +kernel
theorem d_N_line_45 : decode b_N_line 45 = .ok (.iconst 0, 1) := by decide +kernel
theorem d_N_line_46 : decode b_N_line 46 = .ok (.sipush 1000, 3) := by decide +kernel
theorem d_N_line_49 : decode b_N_line 49 = .ok (.invokestatic 53, 3) := by decide +kernel
theorem d_N_line_52 : decode b_N_line 52 = .ok (.ifCond .ne 6, 3) := by decide +kernel
theorem d_N_line_55 : decode b_N_line 55 = .ok (.ldc 52, 2) := by decide +kernel
theorem d_N_line_57 : decode b_N_line 57 = .ok (.ireturn, 1) := by decide +kernel
theorem d_N_line_58 : decode b_N_line 58 = .ok (.aload_n 0, 1) := by decide +kernel
theorem d_N_line_59 : decode b_N_line 59 = .ok (.getfield 12, 3) := by decide +kernel
theorem d_N_line_62 : decode b_N_line 62 = .ok (.getfield 57, 3) := by decide +kernel
theorem d_N_line_65 : decode b_N_line 65 = .ok (.bipush 6, 2) := by decide +kernel
theorem d_N_line_67 : decode b_N_line 67 = .ok (.if_icmp .lt 6, 3) := by decide +kernel
theorem d_N_line_70 : decode b_N_line 70 = .ok (.ldc 52, 2) := by decide +kernel
theorem d_N_line_72 : decode b_N_line 72 = .ok (.ireturn, 1) := by decide +kernel
theorem d_N_line_73 : decode b_N_line 73 = .ok (.aload_n 0, 1) := by decide +kernel
theorem d_N_line_74 : decode b_N_line 74 = .ok (.getfield 36, 3) := by decide +kernel
theorem d_N_line_77 : decode b_N_line 77 = .ok (.iconst 0, 1) := by decide +kernel
theorem d_N_line_78 : decode b_N_line 78 = .ok (.putfield 61, 3) := by decide +kernel
theorem d_N_line_81 : decode b_N_line 81 = .ok (.aload_n 0, 1) := by decide +kernel
theorem d_N_line_82 : decode b_N_line 82 = .ok (.getfield 12, 3) := by decide +kernel
theorem d_N_line_85 : decode b_N_line 85 = .ok (.iload_n 1, 1) := by decide +kernel
theorem d_N_line_86 : decode b_N_line 86 = .ok (.iload_n 2, 1) := by decide +kernel
theorem d_N_line_87 : decode b_N_line 87 = .ok (.iload_n 3, 1) := by decide +kernel
theorem d_N_line_88 : decode b_N_line 88 = .ok (.iload 4, 2) := by decide +kernel
theorem d_N_line_90 : decode b_N_line 90 = .ok (.invokevirtual 65, 3) := by decide +kernel
theorem d_N_line_93 : decode b_N_line 93 = .ok (.ireturn, 1) := by decide +kernel
theorem d_N_limit_0 : decode b_N_limit 0 = .ok (.aload_n 0, 1) := by decide +kernel
theorem d_N_limit_1 : decode b_N_limit 1 = .ok (.getfield 12, 3) := by decide +kernel
theorem d_N_limit_4 : decode b_N_limit 4 = .ok (.iload_n 1, 1) := by decide +kernel
theorem d_N_limit_5 : decode b_N_limit 5 = .ok (.invokevirtual 69, 3) := by decide +kernel
theorem d_N_limit_8 : decode b_N_limit 8 = .ok (.ifCond .eq 14, 3) := by decide +kernel
theorem d_N_limit_11 : decode b_N_limit 11 = .ok (.iload_n 2, 1) := by decide +kernel
theorem d_N_limit_12 : decode b_N_limit 12 = .ok (.iconst 0, 1) := by decide +kernel
theorem d_N_limit_13 : decode b_N_limit 13 = .ok (.sipush 1000, 3) := by decide +kernel
theorem d_N_limit_16 : decode b_N_limit 16 = .ok (.invokestatic 53, 3) := by decide +kernel
theorem d_N_limit_19 : decode b_N_limit 19 = .ok (.ifCond .ne 5, 3) := by decide +kernel
theorem d_N_limit_22 : decode b_N_limit 22 = .ok (.iconst 0, 1) := by decide +kernel
theorem d_N_limit_23 : decode b_N_limit 23 = .ok (.ireturn, 1) := by decide +kernel
theorem d_N_limit_24 : decode b_N_limit 24 = .ok (.aload_n 0, 1) := by decide +kernel
theorem d_N_limit_25 : decode b_N_limit 25 = .ok (.getfield 36, 3) := by decide +kernel
theorem d_N_limit_28 : decode b_N_limit 28 = .ok (.iconst 0, 1) := by decide +kernel
theorem d_N_limit_29 : decode b_N_limit 29 = .ok (.putfield 61, 3) := by decide +kernel
theorem d_N_limit_32 : decode b_N_limit 32 = .ok (.aload_n 0, 1) := by decide +kernel
theorem d_N_limit_33 : decode b_N_limit 33 = .ok (.getfield 12, 3) := by decide +kernel
theorem d_N_limit_36 : decode b_N_limit 36 = .ok (.getfield 72, 3) := by decide +kernel
theorem d_N_limit_39 : decode b_N_limit 39 = .ok (.iload_n 1, 1) := by decide +kernel
theorem d_N_limit_40 : decode b_N_limit 40 = .ok (.iload_n 2, 1) := by decide +kernel
theorem d_N_limit_41 : decode b_N_limit 41 = .ok (.iastore, 1) := by decide +kernel
theorem d_N_limit_42 : decode b_N_limit 42 = .ok (.iconst 1, 1) := by decide +kernel
theorem d_N_limit_43 : decode b_N_limit 43 = .ok (.ireturn, 1) := by decide +kernel
theorem d_N_cut_0 : decode b_N_cut 0 = .ok (.aload_n 0, 1) := by decide +kernel
theorem d_N_cut_1 : decode b_N_cut 1 = .ok (.getfield 12, 3) := by decide +kernel
theorem d_N_cut_4 : decode b_N_cut 4 = .ok (.iload_n 1, 1) := by decide +kernel
theorem d_N_cut_5 : decode b_N_cut 5 = .ok (.invokevirtual 69, 3) := by decide +kernel
theorem d_N_cut_8 : decode b_N_cut 8 = .ok (.ifCond .ne 5, 3) := by decide +kernel
theorem d_N_cut_11 : decode b_N_cut 11 = .ok (.iconst 0, 1) := by decide +kernel
theorem d_N_cut_12 : decode b_N_cut 12 = .ok (.ireturn, 1) := by decide +kernel
theorem d_N_cut_13 : decode b_N_cut 13 = .ok (.aload_n 0, 1) := by decide +kernel
theorem d_N_cut_14 : decode b_N_cut 14 = .ok (.getfield 36, 3) := by decide +kernel
theorem d_N_cut_17 : decode b_N_cut 17 = .ok (.iconst 0, 1) := by decide +kernel
theorem d_N_cut_18 : decode b_N_cut 18 = .ok (.putfield 61, 3) := by decide +kernel
theorem d_N_cut_21 : decode b_N_cut 21 = .ok (.aload_n 0, 1) := by decide +kernel
theorem d_N_cut_22 : decode b_N_cut 22 = .ok (.getfield 12, 3) := by decide +kernel
theorem d_N_cut_25 : decode b_N_cut 25 = .ok (.iload_n 1, 1) := by decide +kernel
theorem d_N_cut_26 : decode b_N_cut 26 = .ok (.invokevirtual 75, 3) := by decide +kernel
theorem d_N_cut_29 : decode b_N_cut 29 = .ok (.iconst 1, 1) := by decide +kernel
theorem d_N_cut_30 : decode b_N_cut 30 = .ok (.ireturn, 1) := by decide +kernel
theorem d_N_bid_0 : decode b_N_bid 0 = .ok (.aload_n 0, 1) := by decide +kernel
theorem d_N_bid_1 : decode b_N_bid 1 = .ok (.iconst 1, 1) := by decide +kernel
theorem d_N_bid_2 : decode b_N_bid 2 = .ok (.iload_n 1, 1) := by decide +kernel
theorem d_N_bid_3 : decode b_N_bid 3 = .ok (.iload_n 2, 1) := by decide +kernel
theorem d_N_bid_4 : decode b_N_bid 4 = .ok (.iload_n 3, 1) := by decide +kernel
theorem d_N_bid_5 : decode b_N_bid 5 = .ok (.invokevirtual 79, 3) := by decide +kernel
theorem d_N_bid_8 : decode b_N_bid 8 = .ok (.ireturn, 1) := by decide +kernel
theorem d_N_offer_0 : decode b_N_offer 0 = .ok (.aload_n 0, 1) := by decide +kernel
theorem d_N_offer_1 : decode b_N_offer 1 = .ok (.iconst (-1), 1) := by decide +kernel
theorem d_N_offer_2 : decode b_N_offer 2 = .ok (.iload_n 1, 1) := by decide +kernel
theorem d_N_offer_3 : decode b_N_offer 3 = .ok (.iload_n 2, 1) := by decide +kernel
theorem d_N_offer_4 : decode b_N_offer 4 = .ok (.iload_n 3, 1) := by decide +kernel
theorem d_N_offer_5 : decode b_N_offer 5 = .ok (.invokevirtual 79, 3) := by decide +kernel
theorem d_N_offer_8 : decode b_N_offer 8 = .ok (.ireturn, 1) := by decide +kernel
theorem d_N_cancel_0 : decode b_N_cancel 0 = .ok (.aload_n 0, 1) := by decide +kernel
theorem d_N_cancel_1 : decode b_N_cancel 1 = .ok (.getfield 19, 3) := by decide +kernel
theorem d_N_cancel_4 : decode b_N_cancel 4 = .ok (.iload_n 1, 1) := by decide +kernel
theorem d_N_cancel_5 : decode b_N_cancel 5 = .ok (.invokevirtual 82, 3) := by decide +kernel
theorem d_N_cancel_8 : decode b_N_cancel 8 = .ok (.ifCond .ne 5, 3) := by decide +kernel
theorem d_N_cancel_11 : decode b_N_cancel 11 = .ok (.iconst 0, 1) := by decide +kernel
theorem d_N_cancel_12 : decode b_N_cancel 12 = .ok (.ireturn, 1) := by decide +kernel
theorem d_N_cancel_13 : decode b_N_cancel 13 = .ok (.aload_n 0, 1) := by decide +kernel
theorem d_N_cancel_14 : decode b_N_cancel 14 = .ok (.getfield 36, 3) := by decide +kernel
theorem d_N_cancel_17 : decode b_N_cancel 17 = .ok (.iconst 0, 1) := by decide +kernel
theorem d_N_cancel_18 : decode b_N_cancel 18 = .ok (.putfield 61, 3) := by decide +kernel
theorem d_N_cancel_21 : decode b_N_cancel 21 = .ok (.aload_n 0, 1) := by decide +kernel
theorem d_N_cancel_22 : decode b_N_cancel 22 = .ok (.getfield 19, 3) := by decide +kernel
theorem d_N_cancel_25 : decode b_N_cancel 25 = .ok (.iload_n 1, 1) := by decide +kernel
theorem d_N_cancel_26 : decode b_N_cancel 26 = .ok (.invokevirtual 83, 3) := by decide +kernel
theorem d_N_cancel_29 : decode b_N_cancel 29 = .ok (.iconst 1, 1) := by decide +kernel
theorem d_N_cancel_30 : decode b_N_cancel 30 = .ok (.ireturn, 1) := by decide +kernel
theorem d_N_clear_0 : decode b_N_clear 0 = .ok (.aload_n 0, 1) := by decide +kernel
theorem d_N_clear_1 : decode b_N_clear 1 = .ok (.getfield 36, 3) := by decide +kernel
theorem d_N_clear_4 : decode b_N_clear 4 = .ok (.iconst 0, 1) := by decide +kernel
theorem d_N_clear_5 : decode b_N_clear 5 = .ok (.putfield 61, 3) := by decide +kernel
theorem d_N_clear_8 : decode b_N_clear 8 = .ok (.aload_n 0, 1) := by decide +kernel
theorem d_N_clear_9 : decode b_N_clear 9 = .ok (.getfield 29, 3) := by decide +kernel
theorem d_N_clear_12 : decode b_N_clear 12 = .ok (.aload_n 0, 1) := by decide +kernel
theorem d_N_clear_13 : decode b_N_clear 13 = .ok (.getfield 12, 3) := by decide +kernel
theorem d_N_clear_16 : decode b_N_clear 16 = .ok (.aload_n 0, 1) := by decide +kernel
theorem d_N_clear_17 : decode b_N_clear 17 = .ok (.getfield 19, 3) := by decide +kernel
theorem d_N_clear_20 : decode b_N_clear 20 = .ok (.iconst 0, 1) := by decide +kernel
theorem d_N_clear_21 : decode b_N_clear 21 = .ok (.iconst 0, 1) := by decide +kernel
theorem d_N_clear_22 : decode b_N_clear 22 = .ok (.invokevirtual 84, 3) := by decide +kernel
theorem d_N_clear_25 : decode b_N_clear 25 = .ok (.ifCond .ne 6, 3) := by decide +kernel
theorem d_N_clear_28 : decode b_N_clear 28 = .ok (.ldc 52, 2) := by decide +kernel
theorem d_N_clear_30 : decode b_N_clear 30 = .ok (.ireturn, 1) := by decide +kernel
theorem d_N_clear_31 : decode b_N_clear 31 = .ok (.aload_n 0, 1) := by decide +kernel
theorem d_N_clear_32 : decode b_N_clear 32 = .ok (.getfield 29, 3) := by decide +kernel
theorem d_N_clear_35 : decode b_N_clear 35 = .ok (.bipush 15, 2) := by decide +kernel
theorem d_N_clear_37 : decode b_N_clear 37 = .ok (.invokevirtual 88, 3) := by decide +kernel
theorem d_N_clear_40 : decode b_N_clear 40 = .ok (.iconst 0, 1) := by decide +kernel
theorem d_N_clear_41 : decode b_N_clear 41 = .ok (.istore_n 1, 1) := by decide +kernel
theorem d_N_clear_42 : decode b_N_clear 42 = .ok (.iload_n 1, 1) := by decide +kernel
theorem d_N_clear_43 : decode b_N_clear 43 = .ok (.aload_n 0, 1) := by decide +kernel
theorem d_N_clear_44 : decode b_N_clear 44 = .ok (.getfield 19, 3) := by decide +kernel
theorem d_N_clear_47 : decode b_N_clear 47 = .ok (.getfield 91, 3) := by decide +kernel
theorem d_N_clear_50 : decode b_N_clear 50 = .ok (.if_icmp .ge 17, 3) := by decide +kernel
theorem d_N_clear_53 : decode b_N_clear 53 = .ok (.aload_n 0, 1) := by decide +kernel
theorem d_N_clear_54 : decode b_N_clear 54 = .ok (.getfield 29, 3) := by decide +kernel
theorem d_N_clear_57 : decode b_N_clear 57 = .ok (.iload_n 1, 1) := by decide +kernel
theorem d_N_clear_58 : decode b_N_clear 58 = .ok (.invokevirtual 88, 3) := by decide +kernel
theorem d_N_clear_61 : decode b_N_clear 61 = .ok (.iinc 1 1, 3) := by decide +kernel
theorem d_N_clear_64 : decode b_N_clear 64 = .ok (.goto (-22), 3) := by decide +kernel
theorem d_N_clear_67 : decode b_N_clear 67 = .ok (.aload_n 0, 1) := by decide +kernel
theorem d_N_clear_68 : decode b_N_clear 68 = .ok (.getfield 36, 3) := by decide +kernel
theorem d_N_clear_71 : decode b_N_clear 71 = .ok (.aload_n 0, 1) := by decide +kernel
theorem d_N_clear_72 : decode b_N_clear 72 = .ok (.getfield 29, 3) := by decide +kernel
theorem d_N_clear_75 : decode b_N_clear 75 = .ok (.aload_n 0, 1) := by decide +kernel
theorem d_N_clear_76 : decode b_N_clear 76 = .ok (.getfield 12, 3) := by decide +kernel
theorem d_N_clear_79 : decode b_N_clear 79 = .ok (.aload_n 0, 1) := by decide +kernel
theorem d_N_clear_80 : decode b_N_clear 80 = .ok (.getfield 19, 3) := by decide +kernel
theorem d_N_clear_83 : decode b_N_clear 83 = .ok (.invokevirtual 92, 3) := by decide +kernel
theorem d_N_clear_86 : decode b_N_clear 86 = .ok (.aload_n 0, 1) := by decide +kernel
theorem d_N_clear_87 : decode b_N_clear 87 = .ok (.getfield 36, 3) := by decide +kernel
theorem d_N_clear_90 : decode b_N_clear 90 = .ok (.aload_n 0, 1) := by decide +kernel
theorem d_N_clear_91 : decode b_N_clear 91 = .ok (.getfield 19, 3) := by decide +kernel
theorem d_N_clear_94 : decode b_N_clear 94 = .ok (.getfield 91, 3) := by decide +kernel
theorem d_N_clear_97 : decode b_N_clear 97 = .ok (.invokevirtual 96, 3) := by decide +kernel
theorem d_N_clear_100 : decode b_N_clear 100 = .ok (.ireturn, 1) := by decide +kernel
theorem d_N_steps_0 : decode b_N_steps 0 = .ok (.aload_n 0, 1) := by decide +kernel
theorem d_N_steps_1 : decode b_N_steps 1 = .ok (.getfield 19, 3) := by decide +kernel
theorem d_N_steps_4 : decode b_N_steps 4 = .ok (.getfield 91, 3) := by decide +kernel
theorem d_N_steps_7 : decode b_N_steps 7 = .ok (.ireturn, 1) := by decide +kernel
theorem d_N_lines_0 : decode b_N_lines 0 = .ok (.aload_n 0, 1) := by decide +kernel
theorem d_N_lines_1 : decode b_N_lines 1 = .ok (.getfield 12, 3) := by decide +kernel
theorem d_N_lines_4 : decode b_N_lines 4 = .ok (.getfield 57, 3) := by decide +kernel
theorem d_N_lines_7 : decode b_N_lines 7 = .ok (.ireturn, 1) := by decide +kernel
theorem d_N_scale_0 : decode b_N_scale 0 = .ok (.aload_n 0, 1) := by decide +kernel
theorem d_N_scale_1 : decode b_N_scale 1 = .ok (.getfield 36, 3) := by decide +kernel
theorem d_N_scale_4 : decode b_N_scale 4 = .ok (.getfield 61, 3) := by decide +kernel
theorem d_N_scale_7 : decode b_N_scale 7 = .ok (.ifCond .eq 13, 3) := by decide +kernel
theorem d_N_scale_10 : decode b_N_scale 10 = .ok (.aload_n 0, 1) := by decide +kernel
theorem d_N_scale_11 : decode b_N_scale 11 = .ok (.getfield 36, 3) := by decide +kernel
theorem d_N_scale_14 : decode b_N_scale 14 = .ok (.getfield 100, 3) := by decide +kernel
theorem d_N_scale_17 : decode b_N_scale 17 = .ok (.goto 4, 3) := by decide +kernel
theorem d_N_scale_20 : decode b_N_scale 20 = .ok (.iconst 0, 1) := by decide +kernel
theorem d_N_scale_21 : decode b_N_scale 21 = .ok (.ireturn, 1) := by decide +kernel
theorem d_N_accepted_0 : decode b_N_accepted 0 = .ok (.aload_n 0, 1) := by decide +kernel
theorem d_N_accepted_1 : decode b_N_accepted 1 = .ok (.getfield 36, 3) := by decide +kernel
theorem d_N_accepted_4 : decode b_N_accepted 4 = .ok (.getfield 61, 3) := by decide +kernel
theorem d_N_accepted_7 : decode b_N_accepted 7 = .ok (.ifCond .eq 26, 3) := by decide +kernel
theorem d_N_accepted_10 : decode b_N_accepted 10 = .ok (.aload_n 0, 1) := by decide +kernel
theorem d_N_accepted_11 : decode b_N_accepted 11 = .ok (.getfield 19, 3) := by decide +kernel
theorem d_N_accepted_14 : decode b_N_accepted 14 = .ok (.iload_n 1, 1) := by decide +kernel
theorem d_N_accepted_15 : decode b_N_accepted 15 = .ok (.invokevirtual 82, 3) := by decide +kernel
theorem d_N_accepted_18 : decode b_N_accepted 18 = .ok (.ifCond .eq 15, 3) := by decide +kernel
theorem d_N_accepted_21 : decode b_N_accepted 21 = .ok (.aload_n 0, 1) := by decide +kernel
theorem d_N_accepted_22 : decode b_N_accepted 22 = .ok (.getfield 36, 3) := by decide +kernel
theorem d_N_accepted_25 : decode b_N_accepted 25 = .ok (.getfield 103, 3) := by decide +kernel
theorem d_N_accepted_28 : decode b_N_accepted 28 = .ok (.iload_n 1, 1) := by decide +kernel
theorem d_N_accepted_29 : decode b_N_accepted 29 = .ok (.iaload, 1) := by decide +kernel
theorem d_N_accepted_30 : decode b_N_accepted 30 = .ok (.goto 5, 3) := by decide +kernel
theorem d_N_accepted_33 : decode b_N_accepted 33 = .ok (.ldc 52, 2) := by decide +kernel
theorem d_N_accepted_35 : decode b_N_accepted 35 = .ok (.ireturn, 1) := by decide +kernel
theorem d_N_flow_0 : decode b_N_flow 0 = .ok (.aload_n 0, 1) := by decide +kernel
theorem d_N_flow_1 : decode b_N_flow 1 = .ok (.getfield 36, 3) := by decide +kernel
theorem d_N_flow_4 : decode b_N_flow 4 = .ok (.getfield 61, 3) := by decide +kernel
theorem d_N_flow_7 : decode b_N_flow 7 = .ok (.ifCond .eq 26, 3) := by decide +kernel
theorem d_N_flow_10 : decode b_N_flow 10 = .ok (.aload_n 0, 1) := by decide +kernel
theorem d_N_flow_11 : decode b_N_flow 11 = .ok (.getfield 12, 3) := by decide +kernel
theorem d_N_flow_14 : decode b_N_flow 14 = .ok (.iload_n 1, 1) := by decide +kernel
theorem d_N_flow_15 : decode b_N_flow 15 = .ok (.invokevirtual 69, 3) := by decide +kernel
theorem d_N_flow_18 : decode b_N_flow 18 = .ok (.ifCond .eq 15, 3) := by decide +kernel
theorem d_N_flow_21 : decode b_N_flow 21 = .ok (.aload_n 0, 1) := by decide +kernel
theorem d_N_flow_22 : decode b_N_flow 22 = .ok (.getfield 36, 3) := by decide +kernel
theorem d_N_flow_25 : decode b_N_flow 25 = .ok (.getfield 106, 3) := by decide +kernel
theorem d_N_flow_28 : decode b_N_flow 28 = .ok (.iload_n 1, 1) := by decide +kernel
theorem d_N_flow_29 : decode b_N_flow 29 = .ok (.iaload, 1) := by decide +kernel
theorem d_N_flow_30 : decode b_N_flow 30 = .ok (.goto 5, 3) := by decide +kernel
theorem d_N_flow_33 : decode b_N_flow 33 = .ok (.ldc 52, 2) := by decide +kernel
theorem d_N_flow_35 : decode b_N_flow 35 = .ok (.ireturn, 1) := by decide +kernel
theorem d_N_tight_0 : decode b_N_tight 0 = .ok (.aload_n 0, 1) := by decide +kernel
theorem d_N_tight_1 : decode b_N_tight 1 = .ok (.getfield 36, 3) := by decide +kernel
theorem d_N_tight_4 : decode b_N_tight 4 = .ok (.getfield 61, 3) := by decide +kernel
theorem d_N_tight_7 : decode b_N_tight 7 = .ok (.ifCond .ne 6, 3) := by decide +kernel
theorem d_N_tight_10 : decode b_N_tight 10 = .ok (.ldc 52, 2) := by decide +kernel
theorem d_N_tight_12 : decode b_N_tight 12 = .ok (.ireturn, 1) := by decide +kernel
theorem d_N_tight_13 : decode b_N_tight 13 = .ok (.iconst 0, 1) := by decide +kernel
theorem d_N_tight_14 : decode b_N_tight 14 = .ok (.istore_n 1, 1) := by decide +kernel
theorem d_N_tight_15 : decode b_N_tight 15 = .ok (.iconst 0, 1) := by decide +kernel
theorem d_N_tight_16 : decode b_N_tight 16 = .ok (.istore_n 2, 1) := by decide +kernel
theorem d_N_tight_17 : decode b_N_tight 17 = .ok (.iload_n 2, 1) := by decide +kernel
theorem d_N_tight_18 : decode b_N_tight 18 = .ok (.aload_n 0, 1) := by decide +kernel
theorem d_N_tight_19 : decode b_N_tight 19 = .ok (.getfield 12, 3) := by decide +kernel
theorem d_N_tight_22 : decode b_N_tight 22 = .ok (.getfield 57, 3) := by decide +kernel
theorem d_N_tight_25 : decode b_N_tight 25 = .ok (.if_icmp .ge 47, 3) := by decide +kernel
theorem d_N_tight_28 : decode b_N_tight 28 = .ok (.aload_n 0, 1) := by decide +kernel
theorem d_N_tight_29 : decode b_N_tight 29 = .ok (.getfield 36, 3) := by decide +kernel
theorem d_N_tight_32 : decode b_N_tight 32 = .ok (.getfield 106, 3) := by decide +kernel
theorem d_N_tight_35 : decode b_N_tight 35 = .ok (.iload_n 2, 1) := by decide +kernel
theorem d_N_tight_36 : decode b_N_tight 36 = .ok (.iaload, 1) := by decide +kernel
theorem d_N_tight_37 : decode b_N_tight 37 = .ok (.invokestatic 109, 3) := by decide +kernel
theorem d_N_tight_40 : decode b_N_tight 40 = .ok (.aload_n 0, 1) := by decide +kernel
theorem d_N_tight_41 : decode b_N_tight 41 = .ok (.getfield 12, 3) := by decide +kernel
theorem d_N_tight_44 : decode b_N_tight 44 = .ok (.getfield 72, 3) := by decide +kernel
theorem d_N_tight_47 : decode b_N_tight 47 = .ok (.iload_n 2, 1) := by decide +kernel
theorem d_N_tight_48 : decode b_N_tight 48 = .ok (.iaload, 1) := by decide +kernel
theorem d_N_tight_49 : decode b_N_tight 49 = .ok (.aload_n 0, 1) := by decide +kernel
theorem d_N_tight_50 : decode b_N_tight 50 = .ok (.getfield 36, 3) := by decide +kernel
theorem d_N_tight_53 : decode b_N_tight 53 = .ok (.getfield 100, 3) := by decide +kernel
theorem d_N_tight_56 : decode b_N_tight 56 = .ok (.imul, 1) := by decide +kernel
theorem d_N_tight_57 : decode b_N_tight 57 = .ok (.if_icmp .ne 9, 3) := by decide +kernel
theorem d_N_tight_60 : decode b_N_tight 60 = .ok (.iload_n 1, 1) := by decide +kernel
theorem d_N_tight_61 : decode b_N_tight 61 = .ok (.iconst 1, 1) := by decide +kernel
theorem d_N_tight_62 : decode b_N_tight 62 = .ok (.iload_n 2, 1) := by decide +kernel
theorem d_N_tight_63 : decode b_N_tight 63 = .ok (.ishl, 1) := by decide +kernel
theorem d_N_tight_64 : decode b_N_tight 64 = .ok (.iadd, 1) := by decide +kernel
theorem d_N_tight_65 : decode b_N_tight 65 = .ok (.istore_n 1, 1) := by decide +kernel
theorem d_N_tight_66 : decode b_N_tight 66 = .ok (.iinc 2 1, 3) := by decide +kernel
theorem d_N_tight_69 : decode b_N_tight 69 = .ok (.goto (-52), 3) := by decide +kernel
theorem d_N_tight_72 : decode b_N_tight 72 = .ok (.iload_n 1, 1) := by decide +kernel
theorem d_N_tight_73 : decode b_N_tight 73 = .ok (.ireturn, 1) := by decide +kernel
theorem d_N_welfare_0 : decode b_N_welfare 0 = .ok (.aload_n 0, 1) := by decide +kernel
theorem d_N_welfare_1 : decode b_N_welfare 1 = .ok (.getfield 36, 3) := by decide +kernel
theorem d_N_welfare_4 : decode b_N_welfare 4 = .ok (.getfield 61, 3) := by decide +kernel
theorem d_N_welfare_7 : decode b_N_welfare 7 = .ok (.ifCond .eq 13, 3) := by decide +kernel
theorem d_N_welfare_10 : decode b_N_welfare 10 = .ok (.aload_n 0, 1) := by decide +kernel
theorem d_N_welfare_11 : decode b_N_welfare 11 = .ok (.getfield 36, 3) := by decide +kernel
theorem d_N_welfare_14 : decode b_N_welfare 14 = .ok (.getfield 114, 3) := by decide +kernel
theorem d_N_welfare_17 : decode b_N_welfare 17 = .ok (.goto 6, 3) := by decide +kernel
theorem d_N_welfare_20 : decode b_N_welfare 20 = .ok (.ldc2_w 118, 3) := by decide +kernel
theorem d_N_welfare_23 : decode b_N_welfare 23 = .ok (.lreturn, 1) := by decide +kernel
theorem d_N_extraTop_0 : decode b_N_extraTop 0 = .ok (.aload_n 0, 1) := by decide +kernel
theorem d_N_extraTop_1 : decode b_N_extraTop 1 = .ok (.iload_n 1, 1) := by decide +kernel
theorem d_N_extraTop_2 : decode b_N_extraTop 2 = .ok (.invokevirtual 120, 3) := by decide +kernel
theorem d_N_extraTop_5 : decode b_N_extraTop 5 = .ok (.ifCond .ne 5, 3) := by decide +kernel
theorem d_N_extraTop_8 : decode b_N_extraTop 8 = .ok (.lconst 0, 1) := by decide +kernel
theorem d_N_extraTop_9 : decode b_N_extraTop 9 = .ok (.lreturn, 1) := by decide +kernel
theorem d_N_extraTop_10 : decode b_N_extraTop 10 = .ok (.aload_n 0, 1) := by decide +kernel
theorem d_N_extraTop_11 : decode b_N_extraTop 11 = .ok (.invokevirtual 123, 3) := by decide +kernel
theorem d_N_extraTop_14 : decode b_N_extraTop 14 = .ok (.aload_n 0, 1) := by decide +kernel
theorem d_N_extraTop_15 : decode b_N_extraTop 15 = .ok (.invokevirtual 127, 3) := by decide +kernel
theorem d_N_extraTop_18 : decode b_N_extraTop 18 = .ok (.invokestatic 130, 3) := by decide +kernel
theorem d_N_extraTop_21 : decode b_N_extraTop 21 = .ok (.lstore_n 2, 1) := by decide +kernel
theorem d_N_extraTop_22 : decode b_N_extraTop 22 = .ok (.lload_n 2, 1) := by decide +kernel
theorem d_N_extraTop_23 : decode b_N_extraTop 23 = .ok (.lconst 0, 1) := by decide +kernel
theorem d_N_extraTop_24 : decode b_N_extraTop 24 = .ok (.lcmp, 1) := by decide +kernel
theorem d_N_extraTop_25 : decode b_N_extraTop 25 = .ok (.ifCond .ne 7, 3) := by decide +kernel
theorem d_N_extraTop_28 : decode b_N_extraTop 28 = .ok (.lconst 0, 1) := by decide +kernel
theorem d_N_extraTop_29 : decode b_N_extraTop 29 = .ok (.goto 9, 3) := by decide +kernel
theorem d_N_extraTop_32 : decode b_N_extraTop 32 = .ok (.aload_n 0, 1) := by decide +kernel
theorem d_N_extraTop_33 : decode b_N_extraTop 33 = .ok (.invokevirtual 123, 3) := by decide +kernel
theorem d_N_extraTop_36 : decode b_N_extraTop 36 = .ok (.lload_n 2, 1) := by decide +kernel
theorem d_N_extraTop_37 : decode b_N_extraTop 37 = .ok (.ldiv, 1) := by decide +kernel
theorem d_N_extraTop_38 : decode b_N_extraTop 38 = .ok (.lreturn, 1) := by decide +kernel
theorem d_N_extraBottom_0 : decode b_N_extraBottom 0 = .ok (.aload_n 0, 1) := by decide +kernel
theorem d_N_extraBottom_1 : decode b_N_extraBottom 1 = .ok (.iload_n 1, 1) := by decide +kernel
theorem d_N_extraBottom_2 : decode b_N_extraBottom 2 = .ok (.invokevirtual 120, 3) := by decide +kernel
theorem d_N_extraBottom_5 : decode b_N_extraBottom 5 = .ok (.ifCond .ne 5, 3) := by decide +kernel
theorem d_N_extraBottom_8 : decode b_N_extraBottom 8 = .ok (.iconst 0, 1) := by decide +kernel
theorem d_N_extraBottom_9 : decode b_N_extraBottom 9 = .ok (.ireturn, 1) := by decide +kernel
theorem d_N_extraBottom_10 : decode b_N_extraBottom 10 = .ok (.aload_n 0, 1) := by decide +kernel
theorem d_N_extraBottom_11 : decode b_N_extraBottom 11 = .ok (.invokevirtual 123, 3) := by decide +kernel
theorem d_N_extraBottom_14 : decode b_N_extraBottom 14 = .ok (.aload_n 0, 1) := by decide +kernel
theorem d_N_extraBottom_15 : decode b_N_extraBottom 15 = .ok (.invokevirtual 127, 3) := by decide +kernel
theorem d_N_extraBottom_18 : decode b_N_extraBottom 18 = .ok (.invokestatic 130, 3) := by decide +kernel
theorem d_N_extraBottom_21 : decode b_N_extraBottom 21 = .ok (.lstore_n 2, 1) := by decide +kernel
theorem d_N_extraBottom_22 : decode b_N_extraBottom 22 = .ok (.lload_n 2, 1) := by decide +kernel
theorem d_N_extraBottom_23 : decode b_N_extraBottom 23 = .ok (.lconst 0, 1) := by decide +kernel
theorem d_N_extraBottom_24 : decode b_N_extraBottom 24 = .ok (.lcmp, 1) := by decide +kernel
theorem d_N_extraBottom_25 : decode b_N_extraBottom 25 = .ok (.ifCond .ne 7, 3) := by decide +kernel
theorem d_N_extraBottom_28 : decode b_N_extraBottom 28 = .ok (.iconst 0, 1) := by decide +kernel
theorem d_N_extraBottom_29 : decode b_N_extraBottom 29 = .ok (.goto 10, 3) := by decide +kernel
theorem d_N_extraBottom_32 : decode b_N_extraBottom 32 = .ok (.aload_n 0, 1) := by decide +kernel
theorem d_N_extraBottom_33 : decode b_N_extraBottom 33 = .ok (.invokevirtual 127, 3) := by decide +kernel
theorem d_N_extraBottom_36 : decode b_N_extraBottom 36 = .ok (.lload_n 2, 1) := by decide +kernel
theorem d_N_extraBottom_37 : decode b_N_extraBottom 37 = .ok (.ldiv, 1) := by decide +kernel
theorem d_N_extraBottom_38 : decode b_N_extraBottom 38 = .ok (.l2i, 1) := by decide +kernel
theorem d_N_extraBottom_39 : decode b_N_extraBottom 39 = .ok (.ireturn, 1) := by decide +kernel
theorem d_N_check_0 : decode b_N_check 0 = .ok (.aload_n 0, 1) := by decide +kernel
theorem d_N_check_1 : decode b_N_check 1 = .ok (.getfield 36, 3) := by decide +kernel
theorem d_N_check_4 : decode b_N_check 4 = .ok (.getfield 61, 3) := by decide +kernel
theorem d_N_check_7 : decode b_N_check 7 = .ok (.ifCond .eq 15, 3) := by decide +kernel
theorem d_N_check_10 : decode b_N_check 10 = .ok (.aload_n 0, 1) := by decide +kernel
theorem d_N_check_11 : decode b_N_check 11 = .ok (.iload_n 1, 1) := by decide +kernel
theorem d_N_check_12 : decode b_N_check 12 = .ok (.iload_n 2, 1) := by decide +kernel
theorem d_N_check_13 : decode b_N_check 13 = .ok (.iload_n 3, 1) := by decide +kernel
theorem d_N_check_14 : decode b_N_check 14 = .ok (.iload 4, 2) := by decide +kernel
theorem d_N_check_16 : decode b_N_check 16 = .ok (.invokevirtual 134, 3) := by decide +kernel
theorem d_N_check_19 : decode b_N_check 19 = .ok (.ifCond .ne 5, 3) := by decide +kernel
theorem d_N_check_22 : decode b_N_check 22 = .ok (.iconst (-1), 1) := by decide +kernel
theorem d_N_check_23 : decode b_N_check 23 = .ok (.ireturn, 1) := by decide +kernel
theorem d_N_check_24 : decode b_N_check 24 = .ok (.aload_n 0, 1) := by decide +kernel
theorem d_N_check_25 : decode b_N_check 25 = .ok (.invokevirtual 138, 3) := by decide +kernel
theorem d_N_check_28 : decode b_N_check 28 = .ok (.ifCond .eq 7, 3) := by decide +kernel
theorem d_N_check_31 : decode b_N_check 31 = .ok (.iconst 1, 1) := by decide +kernel
theorem d_N_check_32 : decode b_N_check 32 = .ok (.goto 4, 3) := by decide +kernel
theorem d_N_check_35 : decode b_N_check 35 = .ok (.iconst 0, 1) := by decide +kernel
theorem d_N_check_36 : decode b_N_check 36 = .ok (.istore 5, 2) := by decide +kernel
theorem d_N_check_38 : decode b_N_check 38 = .ok (.iload 5, 2) := by decide +kernel
theorem d_N_check_40 : decode b_N_check 40 = .ok (.aload_n 0, 1) := by decide +kernel
theorem d_N_check_41 : decode b_N_check 41 = .ok (.invokevirtual 142, 3) := by decide +kernel
theorem d_N_check_44 : decode b_N_check 44 = .ok (.ifCond .eq 7, 3) := by decide +kernel
theorem d_N_check_47 : decode b_N_check 47 = .ok (.iconst 2, 1) := by decide +kernel
theorem d_N_check_48 : decode b_N_check 48 = .ok (.goto 4, 3) := by decide +kernel
theorem d_N_check_51 : decode b_N_check 51 = .ok (.iconst 0, 1) := by decide +kernel
theorem d_N_check_52 : decode b_N_check 52 = .ok (.iadd, 1) := by decide +kernel
theorem d_N_check_53 : decode b_N_check 53 = .ok (.istore 5, 2) := by decide +kernel
theorem d_N_check_55 : decode b_N_check 55 = .ok (.iload 5, 2) := by decide +kernel
theorem d_N_check_57 : decode b_N_check 57 = .ok (.aload_n 0, 1) := by decide +kernel
theorem d_N_check_58 : decode b_N_check 58 = .ok (.invokevirtual 145, 3) := by decide +kernel
theorem d_N_check_61 : decode b_N_check 61 = .ok (.ifCond .eq 7, 3) := by decide +kernel
theorem d_N_check_64 : decode b_N_check 64 = .ok (.iconst 4, 1) := by decide +kernel
theorem d_N_check_65 : decode b_N_check 65 = .ok (.goto 4, 3) := by decide +kernel
theorem d_N_check_68 : decode b_N_check 68 = .ok (.iconst 0, 1) := by decide +kernel
theorem d_N_check_69 : decode b_N_check 69 = .ok (.iadd, 1) := by decide +kernel
theorem d_N_check_70 : decode b_N_check 70 = .ok (.istore 5, 2) := by decide +kernel
theorem d_N_check_72 : decode b_N_check 72 = .ok (.iload 5, 2) := by decide +kernel
theorem d_N_check_74 : decode b_N_check 74 = .ok (.ireturn, 1) := by decide +kernel
theorem d_N_rent_0 : decode b_N_rent 0 = .ok (.aload_n 0, 1) := by decide +kernel
theorem d_N_rent_1 : decode b_N_rent 1 = .ok (.getfield 36, 3) := by decide +kernel
theorem d_N_rent_4 : decode b_N_rent 4 = .ok (.getfield 61, 3) := by decide +kernel
theorem d_N_rent_7 : decode b_N_rent 7 = .ok (.ifCond .eq 15, 3) := by decide +kernel
theorem d_N_rent_10 : decode b_N_rent 10 = .ok (.aload_n 0, 1) := by decide +kernel
theorem d_N_rent_11 : decode b_N_rent 11 = .ok (.iload_n 1, 1) := by decide +kernel
theorem d_N_rent_12 : decode b_N_rent 12 = .ok (.iload_n 2, 1) := by decide +kernel
theorem d_N_rent_13 : decode b_N_rent 13 = .ok (.iload_n 3, 1) := by decide +kernel
theorem d_N_rent_14 : decode b_N_rent 14 = .ok (.iload 4, 2) := by decide +kernel
theorem d_N_rent_16 : decode b_N_rent 16 = .ok (.invokevirtual 134, 3) := by decide +kernel
theorem d_N_rent_19 : decode b_N_rent 19 = .ok (.ifCond .ne 5, 3) := by decide +kernel
theorem d_N_rent_22 : decode b_N_rent 22 = .ok (.lconst 0, 1) := by decide +kernel
theorem d_N_rent_23 : decode b_N_rent 23 = .ok (.lreturn, 1) := by decide +kernel
theorem d_N_rent_24 : decode b_N_rent 24 = .ok (.aload_n 0, 1) := by decide +kernel
theorem d_N_rent_25 : decode b_N_rent 25 = .ok (.invokevirtual 148, 3) := by decide +kernel
theorem d_N_rent_28 : decode b_N_rent 28 = .ok (.lreturn, 1) := by decide +kernel
theorem d_N_within_0 : decode b_N_within 0 = .ok (.iload_n 0, 1) := by decide +kernel
theorem d_N_within_1 : decode b_N_within 1 = .ok (.iload_n 1, 1) := by decide +kernel
theorem d_N_within_2 : decode b_N_within 2 = .ok (.if_icmp .lt 12, 3) := by decide +kernel
theorem d_N_within_5 : decode b_N_within 5 = .ok (.iload_n 0, 1) := by decide +kernel
theorem d_N_within_6 : decode b_N_within 6 = .ok (.iload_n 2, 1) := by decide +kernel
theorem d_N_within_7 : decode b_N_within 7 = .ok (.if_icmp .gt 7, 3) := by decide +kernel
theorem d_N_within_10 : decode b_N_within 10 = .ok (.iconst 1, 1) := by decide +kernel
theorem d_N_within_11 : decode b_N_within 11 = .ok (.goto 4, 3) := by decide +kernel
theorem d_N_within_14 : decode b_N_within 14 = .ok (.iconst 0, 1) := by decide +kernel
theorem d_N_within_15 : decode b_N_within 15 = .ok (.ireturn, 1) := by decide +kernel
theorem d_N_isNode_0 : decode b_N_isNode 0 = .ok (.iload_n 0, 1) := by decide +kernel
theorem d_N_isNode_1 : decode b_N_isNode 1 = .ok (.iconst 0, 1) := by decide +kernel
theorem d_N_isNode_2 : decode b_N_isNode 2 = .ok (.iconst 3, 1) := by decide +kernel
theorem d_N_isNode_3 : decode b_N_isNode 3 = .ok (.invokestatic 53, 3) := by decide +kernel
theorem d_N_isNode_6 : decode b_N_isNode 6 = .ok (.ireturn, 1) := by decide +kernel
theorem d_N_commonDivisor_0 : decode b_N_commonDivisor 0 = .ok (.lload_n 0, 1) := by decide +kernel
theorem d_N_commonDivisor_1 : decode b_N_commonDivisor 1 = .ok (.invokestatic 151, 3) := by decide +kernel
theorem d_N_commonDivisor_4 : decode b_N_commonDivisor 4 = .ok (.lstore 4, 2) := by decide +kernel
theorem d_N_commonDivisor_6 : decode b_N_commonDivisor 6 = .ok (.lload_n 2, 1) := by decide +kernel
theorem d_N_commonDivisor_7 : decode b_N_commonDivisor 7 = .ok (.invokestatic 151, 3) := by decide +kernel
theorem d_N_commonDivisor_10 : decode b_N_commonDivisor 10 = .ok (.lstore 6, 2) := by decide +kernel
theorem d_N_commonDivisor_12 : decode b_N_commonDivisor 12 = .ok (.iconst 0, 1) := by decide +kernel
theorem d_N_commonDivisor_13 : decode b_N_commonDivisor 13 = .ok (.istore 8, 2) := by decide +kernel
theorem d_N_commonDivisor_15 : decode b_N_commonDivisor 15 = .ok (.iload 8, 2) := by decide +kernel
theorem d_N_commonDivisor_17 : decode b_N_commonDivisor 17 = .ok (.sipush 1000, 3) := by decide +kernel
theorem d_N_commonDivisor_20 : decode b_N_commonDivisor 20 = .ok (.if_icmp .ge 31, 3) := by decide +kernel
theorem d_N_commonDivisor_23 : decode b_N_commonDivisor 23 = .ok (.lload 6, 2) := by decide +kernel
theorem d_N_commonDivisor_25 : decode b_N_commonDivisor 25 = .ok (.lconst 0, 1) := by decide +kernel
theorem d_N_commonDivisor_26 : decode b_N_commonDivisor 26 = .ok (.lcmp, 1) := by decide +kernel
theorem d_N_commonDivisor_27 : decode b_N_commonDivisor 27 = .ok (.ifCond .eq 24, 3) := by decide +kernel
theorem d_N_commonDivisor_30 : decode b_N_commonDivisor 30 = .ok (.lload 4, 2) := by decide +kernel
theorem d_N_commonDivisor_32 : decode b_N_commonDivisor 32 = .ok (.lload 6, 2) := by decide +kernel
theorem d_N_commonDivisor_34 : decode b_N_commonDivisor 34 = .ok (.lrem, 1) := by decide +kernel
theorem d_N_commonDivisor_35 : decode b_N_commonDivisor 35 = .ok (.lstore 9, 2) := by decide +kernel
theorem d_N_commonDivisor_37 : decode b_N_commonDivisor 37 = .ok (.lload 6, 2) := by decide +kernel
theorem d_N_commonDivisor_39 : decode b_N_commonDivisor 39 = .ok (.lstore 4, 2) := by decide +kernel
theorem d_N_commonDivisor_41 : decode b_N_commonDivisor 41 = .ok (.lload 9, 2) := by decide +kernel
theorem d_N_commonDivisor_43 : decode b_N_commonDivisor 43 = .ok (.lstore 6, 2) := by decide +kernel
theorem d_N_commonDivisor_45 : decode b_N_commonDivisor 45 = .ok (.iinc 8 1, 3) := by decide +kernel
theorem d_N_commonDivisor_48 : decode b_N_commonDivisor 48 = .ok (.goto (-33), 3) := by decide +kernel
theorem d_N_commonDivisor_51 : decode b_N_commonDivisor 51 = .ok (.lload 4, 2) := by decide +kernel
theorem d_N_commonDivisor_53 : decode b_N_commonDivisor 53 = .ok (.lreturn, 1) := by decide +kernel
theorem d_N_addStep_0 : decode b_N_addStep 0 = .ok (.iload_n 2, 1) := by decide +kernel
theorem d_N_addStep_1 : decode b_N_addStep 1 = .ok (.invokestatic 44, 3) := by decide +kernel
theorem d_N_addStep_4 : decode b_N_addStep 4 = .ok (.ifCond .eq 26, 3) := by decide +kernel
theorem d_N_addStep_7 : decode b_N_addStep 7 = .ok (.iload_n 3, 1) := by decide +kernel
theorem d_N_addStep_8 : decode b_N_addStep 8 = .ok (.iconst 0, 1) := by decide +kernel
theorem d_N_addStep_9 : decode b_N_addStep 9 = .ok (.sipush 1000, 3) := by decide +kernel
theorem d_N_addStep_12 : decode b_N_addStep 12 = .ok (.invokestatic 53, 3) := by decide +kernel
theorem d_N_addStep_15 : decode b_N_addStep 15 = .ok (.ifCond .eq 15, 3) := by decide +kernel
theorem d_N_addStep_18 : decode b_N_addStep 18 = .ok (.iload 4, 2) := by decide +kernel
theorem d_N_addStep_20 : decode b_N_addStep 20 = .ok (.iconst 1, 1) := by decide +kernel
theorem d_N_addStep_21 : decode b_N_addStep 21 = .ok (.sipush 1000, 3) := by decide +kernel
theorem d_N_addStep_24 : decode b_N_addStep 24 = .ok (.invokestatic 53, 3) := by decide +kernel
theorem d_N_addStep_27 : decode b_N_addStep 27 = .ok (.ifCond .ne 6, 3) := by decide +kernel
theorem d_N_addStep_30 : decode b_N_addStep 30 = .ok (.ldc 52, 2) := by decide +kernel
theorem d_N_addStep_32 : decode b_N_addStep 32 = .ok (.ireturn, 1) := by decide +kernel
theorem d_N_addStep_33 : decode b_N_addStep 33 = .ok (.aload_n 0, 1) := by decide +kernel
theorem d_N_addStep_34 : decode b_N_addStep 34 = .ok (.getfield 19, 3) := by decide +kernel
theorem d_N_addStep_37 : decode b_N_addStep 37 = .ok (.getfield 91, 3) := by decide +kernel
theorem d_N_addStep_40 : decode b_N_addStep 40 = .ok (.bipush 8, 2) := by decide +kernel
theorem d_N_addStep_42 : decode b_N_addStep 42 = .ok (.if_icmp .lt 6, 3) := by decide +kernel
theorem d_N_addStep_45 : decode b_N_addStep 45 = .ok (.ldc 52, 2) := by decide +kernel
theorem d_N_addStep_47 : decode b_N_addStep 47 = .ok (.ireturn, 1) := by decide +kernel
theorem d_N_addStep_48 : decode b_N_addStep 48 = .ok (.aload_n 0, 1) := by decide +kernel
theorem d_N_addStep_49 : decode b_N_addStep 49 = .ok (.getfield 36, 3) := by decide +kernel
theorem d_N_addStep_52 : decode b_N_addStep 52 = .ok (.iconst 0, 1) := by decide +kernel
theorem d_N_addStep_53 : decode b_N_addStep 53 = .ok (.putfield 61, 3) := by decide +kernel
theorem d_N_addStep_56 : decode b_N_addStep 56 = .ok (.aload_n 0, 1) := by decide +kernel
theorem d_N_addStep_57 : decode b_N_addStep 57 = .ok (.getfield 19, 3) := by decide +kernel
theorem d_N_addStep_60 : decode b_N_addStep 60 = .ok (.iload_n 1, 1) := by decide +kernel
theorem d_N_addStep_61 : decode b_N_addStep 61 = .ok (.iload_n 2, 1) := by decide +kernel
theorem d_N_addStep_62 : decode b_N_addStep 62 = .ok (.iload_n 3, 1) := by decide +kernel
theorem d_N_addStep_63 : decode b_N_addStep 63 = .ok (.iload 4, 2) := by decide +kernel
theorem d_N_addStep_65 : decode b_N_addStep 65 = .ok (.invokevirtual 154, 3) := by decide +kernel
theorem d_N_addStep_68 : decode b_N_addStep 68 = .ok (.ireturn, 1) := by decide +kernel
theorem d_N_addOneAt_0 : decode b_N_addOneAt 0 = .ok (.aload_n 0, 1) := by decide +kernel
theorem d_N_addOneAt_1 : decode b_N_addOneAt 1 = .ok (.getfield 36, 3) := by decide +kernel
theorem d_N_addOneAt_4 : decode b_N_addOneAt 4 = .ok (.getfield 61, 3) := by decide +kernel
theorem d_N_addOneAt_7 : decode b_N_addOneAt 7 = .ok (.ifCond .eq 30, 3) := by decide +kernel
theorem d_N_addOneAt_10 : decode b_N_addOneAt 10 = .ok (.iload_n 1, 1) := by decide +kernel
theorem d_N_addOneAt_11 : decode b_N_addOneAt 11 = .ok (.invokestatic 44, 3) := by decide +kernel
theorem d_N_addOneAt_14 : decode b_N_addOneAt 14 = .ok (.ifCond .eq 23, 3) := by decide +kernel
theorem d_N_addOneAt_17 : decode b_N_addOneAt 17 = .ok (.aload_n 0, 1) := by decide +kernel
theorem d_N_addOneAt_18 : decode b_N_addOneAt 18 = .ok (.getfield 29, 3) := by decide +kernel
theorem d_N_addOneAt_21 : decode b_N_addOneAt 21 = .ok (.aload_n 0, 1) := by decide +kernel
theorem d_N_addOneAt_22 : decode b_N_addOneAt 22 = .ok (.getfield 12, 3) := by decide +kernel
theorem d_N_addOneAt_25 : decode b_N_addOneAt 25 = .ok (.aload_n 0, 1) := by decide +kernel
theorem d_N_addOneAt_26 : decode b_N_addOneAt 26 = .ok (.getfield 19, 3) := by decide +kernel
theorem d_N_addOneAt_29 : decode b_N_addOneAt 29 = .ok (.iload_n 1, 1) := by decide +kernel
theorem d_N_addOneAt_30 : decode b_N_addOneAt 30 = .ok (.iconst 1, 1) := by decide +kernel
theorem d_N_addOneAt_31 : decode b_N_addOneAt 31 = .ok (.invokevirtual 84, 3) := by decide +kernel
theorem d_N_addOneAt_34 : decode b_N_addOneAt 34 = .ok (.ifCond .ne 5, 3) := by decide +kernel
theorem d_N_addOneAt_37 : decode b_N_addOneAt 37 = .ok (.iconst 0, 1) := by decide +kernel
theorem d_N_addOneAt_38 : decode b_N_addOneAt 38 = .ok (.ireturn, 1) := by decide +kernel
theorem d_N_addOneAt_39 : decode b_N_addOneAt 39 = .ok (.aload_n 0, 1) := by decide +kernel
theorem d_N_addOneAt_40 : decode b_N_addOneAt 40 = .ok (.getfield 29, 3) := by decide +kernel
theorem d_N_addOneAt_43 : decode b_N_addOneAt 43 = .ok (.bipush 8, 2) := by decide +kernel
theorem d_N_addOneAt_45 : decode b_N_addOneAt 45 = .ok (.invokevirtual 88, 3) := by decide +kernel
theorem d_N_addOneAt_48 : decode b_N_addOneAt 48 = .ok (.aload_n 0, 1) := by decide +kernel
theorem d_N_addOneAt_49 : decode b_N_addOneAt 49 = .ok (.getfield 29, 3) := by decide +kernel
theorem d_N_addOneAt_52 : decode b_N_addOneAt 52 = .ok (.bipush 8, 2) := by decide +kernel
theorem d_N_addOneAt_54 : decode b_N_addOneAt 54 = .ok (.invokevirtual 155, 3) := by decide +kernel
theorem d_N_addOneAt_57 : decode b_N_addOneAt 57 = .ok (.aload_n 0, 1) := by decide +kernel
theorem d_N_addOneAt_58 : decode b_N_addOneAt 58 = .ok (.getfield 29, 3) := by decide +kernel
theorem d_N_addOneAt_61 : decode b_N_addOneAt 61 = .ok (.getfield 159, 3) := by decide +kernel
theorem d_N_addOneAt_64 : decode b_N_addOneAt 64 = .ok (.lcmp, 1) := by decide +kernel
theorem d_N_addOneAt_65 : decode b_N_addOneAt 65 = .ok (.ifCond .eq 5, 3) := by decide +kernel
theorem d_N_addOneAt_68 : decode b_N_addOneAt 68 = .ok (.iconst 0, 1) := by decide +kernel
theorem d_N_addOneAt_69 : decode b_N_addOneAt 69 = .ok (.ireturn, 1) := by decide +kernel
theorem d_N_addOneAt_70 : decode b_N_addOneAt 70 = .ok (.aload_n 0, 1) := by decide +kernel
theorem d_N_addOneAt_71 : decode b_N_addOneAt 71 = .ok (.getfield 29, 3) := by decide +kernel
theorem d_N_addOneAt_74 : decode b_N_addOneAt 74 = .ok (.bipush 15, 2) := by decide +kernel
theorem d_N_addOneAt_76 : decode b_N_addOneAt 76 = .ok (.invokevirtual 88, 3) := by decide +kernel
theorem d_N_addOneAt_79 : decode b_N_addOneAt 79 = .ok (.iconst 1, 1) := by decide +kernel
theorem d_N_addOneAt_80 : decode b_N_addOneAt 80 = .ok (.ireturn, 1) := by decide +kernel
theorem d_N_costTop_0 : decode b_N_costTop 0 = .ok (.aload_n 0, 1) := by decide +kernel
theorem d_N_costTop_1 : decode b_N_costTop 1 = .ok (.getfield 36, 3) := by decide +kernel
theorem d_N_costTop_4 : decode b_N_costTop 4 = .ok (.getfield 114, 3) := by decide +kernel
theorem d_N_costTop_7 : decode b_N_costTop 7 = .ok (.aload_n 0, 1) := by decide +kernel
theorem d_N_costTop_8 : decode b_N_costTop 8 = .ok (.getfield 29, 3) := by decide +kernel
theorem d_N_costTop_11 : decode b_N_costTop 11 = .ok (.getfield 159, 3) := by decide +kernel
theorem d_N_costTop_14 : decode b_N_costTop 14 = .ok (.lmul, 1) := by decide +kernel
theorem d_N_costTop_15 : decode b_N_costTop 15 = .ok (.aload_n 0, 1) := by decide +kernel
theorem d_N_costTop_16 : decode b_N_costTop 16 = .ok (.getfield 29, 3) := by decide +kernel
theorem d_N_costTop_19 : decode b_N_costTop 19 = .ok (.bipush 15, 2) := by decide +kernel
theorem d_N_costTop_21 : decode b_N_costTop 21 = .ok (.invokevirtual 155, 3) := by decide +kernel
theorem d_N_costTop_24 : decode b_N_costTop 24 = .ok (.aload_n 0, 1) := by decide +kernel
theorem d_N_costTop_25 : decode b_N_costTop 25 = .ok (.getfield 36, 3) := by decide +kernel
theorem d_N_costTop_28 : decode b_N_costTop 28 = .ok (.getfield 100, 3) := by decide +kernel
theorem d_N_costTop_31 : decode b_N_costTop 31 = .ok (.i2l, 1) := by decide +kernel
theorem d_N_costTop_32 : decode b_N_costTop 32 = .ok (.lmul, 1) := by decide +kernel
theorem d_N_costTop_33 : decode b_N_costTop 33 = .ok (.lsub, 1) := by decide +kernel
theorem d_N_costTop_34 : decode b_N_costTop 34 = .ok (.lreturn, 1) := by decide +kernel
theorem d_N_costBottom_0 : decode b_N_costBottom 0 = .ok (.aload_n 0, 1) := by decide +kernel
theorem d_N_costBottom_1 : decode b_N_costBottom 1 = .ok (.getfield 29, 3) := by decide +kernel
theorem d_N_costBottom_4 : decode b_N_costBottom 4 = .ok (.getfield 159, 3) := by decide +kernel
theorem d_N_costBottom_7 : decode b_N_costBottom 7 = .ok (.aload_n 0, 1) := by decide +kernel
theorem d_N_costBottom_8 : decode b_N_costBottom 8 = .ok (.getfield 36, 3) := by decide +kernel
theorem d_N_costBottom_11 : decode b_N_costBottom 11 = .ok (.getfield 100, 3) := by decide +kernel
theorem d_N_costBottom_14 : decode b_N_costBottom 14 = .ok (.i2l, 1) := by decide +kernel
theorem d_N_costBottom_15 : decode b_N_costBottom 15 = .ok (.lmul, 1) := by decide +kernel
theorem d_N_costBottom_16 : decode b_N_costBottom 16 = .ok (.lreturn, 1) := by decide +kernel
theorem d_N_takePrices_0 : decode b_N_takePrices 0 = .ok (.aload_n 0, 1) := by decide +kernel
theorem d_N_takePrices_1 : decode b_N_takePrices 1 = .ok (.getfield 40, 3) := by decide +kernel
theorem d_N_takePrices_4 : decode b_N_takePrices 4 = .ok (.iconst 0, 1) := by decide +kernel
theorem d_N_takePrices_5 : decode b_N_takePrices 5 = .ok (.iload_n 1, 1) := by decide +kernel
theorem d_N_takePrices_6 : decode b_N_takePrices 6 = .ok (.iastore, 1) := by decide +kernel
theorem d_N_takePrices_7 : decode b_N_takePrices 7 = .ok (.aload_n 0, 1) := by decide +kernel
theorem d_N_takePrices_8 : decode b_N_takePrices 8 = .ok (.getfield 40, 3) := by decide +kernel
theorem d_N_takePrices_11 : decode b_N_takePrices 11 = .ok (.iconst 1, 1) := by decide +kernel
theorem d_N_takePrices_12 : decode b_N_takePrices 12 = .ok (.iload_n 2, 1) := by decide +kernel
theorem d_N_takePrices_13 : decode b_N_takePrices 13 = .ok (.iastore, 1) := by decide +kernel
theorem d_N_takePrices_14 : decode b_N_takePrices 14 = .ok (.aload_n 0, 1) := by decide +kernel
theorem d_N_takePrices_15 : decode b_N_takePrices 15 = .ok (.getfield 40, 3) := by decide +kernel
theorem d_N_takePrices_18 : decode b_N_takePrices 18 = .ok (.iconst 2, 1) := by decide +kernel
theorem d_N_takePrices_19 : decode b_N_takePrices 19 = .ok (.iload_n 3, 1) := by decide +kernel
theorem d_N_takePrices_20 : decode b_N_takePrices 20 = .ok (.iastore, 1) := by decide +kernel
theorem d_N_takePrices_21 : decode b_N_takePrices 21 = .ok (.aload_n 0, 1) := by decide +kernel
theorem d_N_takePrices_22 : decode b_N_takePrices 22 = .ok (.getfield 40, 3) := by decide +kernel
theorem d_N_takePrices_25 : decode b_N_takePrices 25 = .ok (.iconst 3, 1) := by decide +kernel
theorem d_N_takePrices_26 : decode b_N_takePrices 26 = .ok (.iload 4, 2) := by decide +kernel
theorem d_N_takePrices_28 : decode b_N_takePrices 28 = .ok (.iastore, 1) := by decide +kernel
theorem d_N_takePrices_29 : decode b_N_takePrices 29 = .ok (.iconst 0, 1) := by decide +kernel
theorem d_N_takePrices_30 : decode b_N_takePrices 30 = .ok (.istore 5, 2) := by decide +kernel
theorem d_N_takePrices_32 : decode b_N_takePrices 32 = .ok (.iload 5, 2) := by decide +kernel
theorem d_N_takePrices_34 : decode b_N_takePrices 34 = .ok (.iconst 4, 1) := by decide +kernel
theorem d_N_takePrices_35 : decode b_N_takePrices 35 = .ok (.if_icmp .ge 30, 3) := by decide +kernel
theorem d_N_takePrices_38 : decode b_N_takePrices 38 = .ok (.aload_n 0, 1) := by decide +kernel
theorem d_N_takePrices_39 : decode b_N_takePrices 39 = .ok (.getfield 40, 3) := by decide +kernel
theorem d_N_takePrices_42 : decode b_N_takePrices 42 = .ok (.iload 5, 2) := by decide +kernel
theorem d_N_takePrices_44 : decode b_N_takePrices 44 = .ok (.iaload, 1) := by decide +kernel
theorem d_N_takePrices_45 : decode b_N_takePrices 45 = .ok (.sipush (-2000), 3) := by decide +kernel
theorem d_N_takePrices_48 : decode b_N_takePrices 48 = .ok (.sipush 2000, 3) := by decide +kernel
theorem d_N_takePrices_51 : decode b_N_takePrices 51 = .ok (.invokestatic 53, 3) := by decide +kernel
theorem d_N_takePrices_54 : decode b_N_takePrices 54 = .ok (.ifCond .ne 5, 3) := by decide +kernel
theorem d_N_takePrices_57 : decode b_N_takePrices 57 = .ok (.iconst 0, 1) := by decide +kernel
theorem d_N_takePrices_58 : decode b_N_takePrices 58 = .ok (.ireturn, 1) := by decide +kernel
theorem d_N_takePrices_59 : decode b_N_takePrices 59 = .ok (.iinc 5 1, 3) := by decide +kernel
theorem d_N_takePrices_62 : decode b_N_takePrices 62 = .ok (.goto (-30), 3) := by decide +kernel
theorem d_N_takePrices_65 : decode b_N_takePrices 65 = .ok (.iconst 1, 1) := by decide +kernel
theorem d_N_takePrices_66 : decode b_N_takePrices 66 = .ok (.ireturn, 1) := by decide +kernel
theorem d_N_margin_0 : decode b_N_margin 0 = .ok (.aload_n 0, 1) := by decide +kernel
theorem d_N_margin_1 : decode b_N_margin 1 = .ok (.getfield 19, 3) := by decide +kernel
theorem d_N_margin_4 : decode b_N_margin 4 = .ok (.getfield 162, 3) := by decide +kernel
theorem d_N_margin_7 : decode b_N_margin 7 = .ok (.iload_n 1, 1) := by decide +kernel
theorem d_N_margin_8 : decode b_N_margin 8 = .ok (.iaload, 1) := by decide +kernel
theorem d_N_margin_9 : decode b_N_margin 9 = .ok (.aload_n 0, 1) := by decide +kernel
theorem d_N_margin_10 : decode b_N_margin 10 = .ok (.getfield 19, 3) := by decide +kernel
theorem d_N_margin_13 : decode b_N_margin 13 = .ok (.getfield 165, 3) := by decide +kernel
theorem d_N_margin_16 : decode b_N_margin 16 = .ok (.iload_n 1, 1) := by decide +kernel
theorem d_N_margin_17 : decode b_N_margin 17 = .ok (.iaload, 1) := by decide +kernel
theorem d_N_margin_18 : decode b_N_margin 18 = .ok (.aload_n 0, 1) := by decide +kernel
theorem d_N_margin_19 : decode b_N_margin 19 = .ok (.getfield 40, 3) := by decide +kernel
theorem d_N_margin_22 : decode b_N_margin 22 = .ok (.aload_n 0, 1) := by decide +kernel
theorem d_N_margin_23 : decode b_N_margin 23 = .ok (.getfield 19, 3) := by decide +kernel
theorem d_N_margin_26 : decode b_N_margin 26 = .ok (.getfield 168, 3) := by decide +kernel
theorem d_N_margin_29 : decode b_N_margin 29 = .ok (.iload_n 1, 1) := by decide +kernel
theorem d_N_margin_30 : decode b_N_margin 30 = .ok (.iaload, 1) := by decide +kernel
theorem d_N_margin_31 : decode b_N_margin 31 = .ok (.iaload, 1) := by decide +kernel
theorem d_N_margin_32 : decode b_N_margin 32 = .ok (.isub, 1) := by decide +kernel
theorem d_N_margin_33 : decode b_N_margin 33 = .ok (.imul, 1) := by decide +kernel
theorem d_N_margin_34 : decode b_N_margin 34 = .ok (.ireturn, 1) := by decide +kernel
theorem d_N_someStepLoses_0 : decode b_N_someStepLoses 0 = .ok (.iconst 0, 1) := by decide +kernel
theorem d_N_someStepLoses_1 : decode b_N_someStepLoses 1 = .ok (.istore_n 1, 1) := by decide +kernel
theorem d_N_someStepLoses_2 : decode b_N_someStepLoses 2 = .ok (.iload_n 1, 1) := by decide +kernel
theorem d_N_someStepLoses_3 : decode b_N_someStepLoses 3 = .ok (.aload_n 0, 1) := by decide +kernel
theorem d_N_someStepLoses_4 : decode b_N_someStepLoses 4 = .ok (.getfield 19, 3) := by decide +kernel
theorem d_N_someStepLoses_7 : decode b_N_someStepLoses 7 = .ok (.getfield 91, 3) := by decide +kernel
theorem d_N_someStepLoses_10 : decode b_N_someStepLoses 10 = .ok (.if_icmp .ge 31, 3) := by decide +kernel
theorem d_N_someStepLoses_13 : decode b_N_someStepLoses 13 = .ok (.aload_n 0, 1) := by decide +kernel
theorem d_N_someStepLoses_14 : decode b_N_someStepLoses 14 = .ok (.getfield 36, 3) := by decide +kernel
theorem d_N_someStepLoses_17 : decode b_N_someStepLoses 17 = .ok (.getfield 103, 3) := by decide +kernel
theorem d_N_someStepLoses_20 : decode b_N_someStepLoses 20 = .ok (.iload_n 1, 1) := by decide +kernel
theorem d_N_someStepLoses_21 : decode b_N_someStepLoses 21 = .ok (.iaload, 1) := by decide +kernel
theorem d_N_someStepLoses_22 : decode b_N_someStepLoses 22 = .ok (.ifCond .le 13, 3) := by decide +kernel
theorem d_N_someStepLoses_25 : decode b_N_someStepLoses 25 = .ok (.aload_n 0, 1) := by decide +kernel
theorem d_N_someStepLoses_26 : decode b_N_someStepLoses 26 = .ok (.iload_n 1, 1) := by decide +kernel
theorem d_N_someStepLoses_27 : decode b_N_someStepLoses 27 = .ok (.invokevirtual 171, 3) := by decide +kernel
theorem d_N_someStepLoses_30 : decode b_N_someStepLoses 30 = .ok (.ifCond .ge 5, 3) := by decide +kernel
theorem d_N_someStepLoses_33 : decode b_N_someStepLoses 33 = .ok (.iconst 1, 1) := by decide +kernel
theorem d_N_someStepLoses_34 : decode b_N_someStepLoses 34 = .ok (.ireturn, 1) := by decide +kernel
theorem d_N_someStepLoses_35 : decode b_N_someStepLoses 35 = .ok (.iinc 1 1, 3) := by decide +kernel
theorem d_N_someStepLoses_38 : decode b_N_someStepLoses 38 = .ok (.goto (-36), 3) := by decide +kernel
theorem d_N_someStepLoses_41 : decode b_N_someStepLoses 41 = .ok (.iconst 0, 1) := by decide +kernel
theorem d_N_someStepLoses_42 : decode b_N_someStepLoses 42 = .ok (.ireturn, 1) := by decide +kernel
theorem d_N_someStepWouldGain_0 : decode b_N_someStepWouldGain 0 = .ok (.iconst 0, 1) := by decide +kernel
theorem d_N_someStepWouldGain_1 : decode b_N_someStepWouldGain 1 = .ok (.istore_n 1, 1) := by decide +kernel
theorem d_N_someStepWouldGain_2 : decode b_N_someStepWouldGain 2 = .ok (.iload_n 1, 1) := by decide +kernel
theorem d_N_someStepWouldGain_3 : decode b_N_someStepWouldGain 3 = .ok (.aload_n 0, 1) := by decide +kernel
theorem d_N_someStepWouldGain_4 : decode b_N_someStepWouldGain 4 = .ok (.getfield 19, 3) := by decide +kernel
theorem d_N_someStepWouldGain_7 : decode b_N_someStepWouldGain 7 = .ok (.getfield 91, 3) := by decide +kernel
theorem d_N_someStepWouldGain_10 : decode b_N_someStepWouldGain 10 = .ok (.if_icmp .ge 48, 3) := by decide +kernel
theorem d_N_someStepWouldGain_13 : decode b_N_someStepWouldGain 13 = .ok (.aload_n 0, 1) := by decide +kernel
theorem d_N_someStepWouldGain_14 : decode b_N_someStepWouldGain 14 = .ok (.getfield 36, 3) := by decide +kernel
theorem d_N_someStepWouldGain_17 : decode b_N_someStepWouldGain 17 = .ok (.getfield 103, 3) := by decide +kernel
theorem d_N_someStepWouldGain_20 : decode b_N_someStepWouldGain 20 = .ok (.iload_n 1, 1) := by decide +kernel
theorem d_N_someStepWouldGain_21 : decode b_N_someStepWouldGain 21 = .ok (.iaload, 1) := by decide +kernel
theorem d_N_someStepWouldGain_22 : decode b_N_someStepWouldGain 22 = .ok (.aload_n 0, 1) := by decide +kernel
theorem d_N_someStepWouldGain_23 : decode b_N_someStepWouldGain 23 = .ok (.getfield 19, 3) := by decide +kernel
theorem d_N_someStepWouldGain_26 : decode b_N_someStepWouldGain 26 = .ok (.getfield 174, 3) := by decide +kernel
theorem d_N_someStepWouldGain_29 : decode b_N_someStepWouldGain 29 = .ok (.iload_n 1, 1) := by decide +kernel
theorem d_N_someStepWouldGain_30 : decode b_N_someStepWouldGain 30 = .ok (.iaload, 1) := by decide +kernel
theorem d_N_someStepWouldGain_31 : decode b_N_someStepWouldGain 31 = .ok (.aload_n 0, 1) := by decide +kernel
theorem d_N_someStepWouldGain_32 : decode b_N_someStepWouldGain 32 = .ok (.getfield 36, 3) := by decide +kernel
theorem d_N_someStepWouldGain_35 : decode b_N_someStepWouldGain 35 = .ok (.getfield 100, 3) := by decide +kernel
theorem d_N_someStepWouldGain_38 : decode b_N_someStepWouldGain 38 = .ok (.imul, 1) := by decide +kernel
theorem d_N_someStepWouldGain_39 : decode b_N_someStepWouldGain 39 = .ok (.if_icmp .ge 13, 3) := by decide +kernel
theorem d_N_someStepWouldGain_42 : decode b_N_someStepWouldGain 42 = .ok (.aload_n 0, 1) := by decide +kernel
theorem d_N_someStepWouldGain_43 : decode b_N_someStepWouldGain 43 = .ok (.iload_n 1, 1) := by decide +kernel
theorem d_N_someStepWouldGain_44 : decode b_N_someStepWouldGain 44 = .ok (.invokevirtual 171, 3) := by decide +kernel
theorem d_N_someStepWouldGain_47 : decode b_N_someStepWouldGain 47 = .ok (.ifCond .le 5, 3) := by decide +kernel
theorem d_N_someStepWouldGain_50 : decode b_N_someStepWouldGain 50 = .ok (.iconst 1, 1) := by decide +kernel
theorem d_N_someStepWouldGain_51 : decode b_N_someStepWouldGain 51 = .ok (.ireturn, 1) := by decide +kernel
theorem d_N_someStepWouldGain_52 : decode b_N_someStepWouldGain 52 = .ok (.iinc 1 1, 3) := by decide +kernel
theorem d_N_someStepWouldGain_55 : decode b_N_someStepWouldGain 55 = .ok (.goto (-53), 3) := by decide +kernel
theorem d_N_someStepWouldGain_58 : decode b_N_someStepWouldGain 58 = .ok (.iconst 0, 1) := by decide +kernel
theorem d_N_someStepWouldGain_59 : decode b_N_someStepWouldGain 59 = .ok (.ireturn, 1) := by decide +kernel
theorem d_N_gridCarriesMore_0 : decode b_N_gridCarriesMore 0 = .ok (.aload_n 0, 1) := by decide +kernel
theorem d_N_gridCarriesMore_1 : decode b_N_gridCarriesMore 1 = .ok (.getfield 23, 3) := by decide +kernel
theorem d_N_gridCarriesMore_4 : decode b_N_gridCarriesMore 4 = .ok (.iconst 0, 1) := by decide +kernel
theorem d_N_gridCarriesMore_5 : decode b_N_gridCarriesMore 5 = .ok (.putfield 91, 3) := by decide +kernel
theorem d_N_gridCarriesMore_8 : decode b_N_gridCarriesMore 8 = .ok (.iconst 0, 1) := by decide +kernel
theorem d_N_gridCarriesMore_9 : decode b_N_gridCarriesMore 9 = .ok (.istore_n 1, 1) := by decide +kernel
theorem d_N_gridCarriesMore_10 : decode b_N_gridCarriesMore 10 = .ok (.iload_n 1, 1) := by decide +kernel
theorem d_N_gridCarriesMore_11 : decode b_N_gridCarriesMore 11 = .ok (.iconst 4, 1) := by decide +kernel
theorem d_N_gridCarriesMore_12 : decode b_N_gridCarriesMore 12 = .ok (.if_icmp .ge 47, 3) := by decide +kernel
theorem d_N_gridCarriesMore_15 : decode b_N_gridCarriesMore 15 = .ok (.aload_n 0, 1) := by decide +kernel
theorem d_N_gridCarriesMore_16 : decode b_N_gridCarriesMore 16 = .ok (.getfield 23, 3) := by decide +kernel
theorem d_N_gridCarriesMore_19 : decode b_N_gridCarriesMore 19 = .ok (.iconst 1, 1) := by decide +kernel
theorem d_N_gridCarriesMore_20 : decode b_N_gridCarriesMore 20 = .ok (.iload_n 1, 1) := by decide +kernel
theorem d_N_gridCarriesMore_21 : decode b_N_gridCarriesMore 21 = .ok (.aload_n 0, 1) := by decide +kernel
theorem d_N_gridCarriesMore_22 : decode b_N_gridCarriesMore 22 = .ok (.getfield 40, 3) := by decide +kernel
theorem d_N_gridCarriesMore_25 : decode b_N_gridCarriesMore 25 = .ok (.iload_n 1, 1) := by decide +kernel
theorem d_N_gridCarriesMore_26 : decode b_N_gridCarriesMore 26 = .ok (.iaload, 1) := by decide +kernel
theorem d_N_gridCarriesMore_27 : decode b_N_gridCarriesMore 27 = .ok (.sipush 3000, 3) := by decide +kernel
theorem d_N_gridCarriesMore_30 : decode b_N_gridCarriesMore 30 = .ok (.invokevirtual 154, 3) := by decide +kernel
theorem d_N_gridCarriesMore_33 : decode b_N_gridCarriesMore 33 = .ok (.pop, 1) := by decide +kernel
theorem d_N_gridCarriesMore_34 : decode b_N_gridCarriesMore 34 = .ok (.aload_n 0, 1) := by decide +kernel
theorem d_N_gridCarriesMore_35 : decode b_N_gridCarriesMore 35 = .ok (.getfield 23, 3) := by decide +kernel
theorem d_N_gridCarriesMore_38 : decode b_N_gridCarriesMore 38 = .ok (.iconst (-1), 1) := by decide +kernel
theorem d_N_gridCarriesMore_39 : decode b_N_gridCarriesMore 39 = .ok (.iload_n 1, 1) := by decide +kernel
theorem d_N_gridCarriesMore_40 : decode b_N_gridCarriesMore 40 = .ok (.aload_n 0, 1) := by decide +kernel
theorem d_N_gridCarriesMore_41 : decode b_N_gridCarriesMore 41 = .ok (.getfield 40, 3) := by decide +kernel
theorem d_N_gridCarriesMore_44 : decode b_N_gridCarriesMore 44 = .ok (.iload_n 1, 1) := by decide +kernel
theorem d_N_gridCarriesMore_45 : decode b_N_gridCarriesMore 45 = .ok (.iaload, 1) := by decide +kernel
theorem d_N_gridCarriesMore_46 : decode b_N_gridCarriesMore 46 = .ok (.sipush 3000, 3) := by decide +kernel
theorem d_N_gridCarriesMore_49 : decode b_N_gridCarriesMore 49 = .ok (.invokevirtual 154, 3) := by decide +kernel
theorem d_N_gridCarriesMore_52 : decode b_N_gridCarriesMore 52 = .ok (.pop, 1) := by decide +kernel
theorem d_N_gridCarriesMore_53 : decode b_N_gridCarriesMore 53 = .ok (.iinc 1 1, 3) := by decide +kernel
theorem d_N_gridCarriesMore_56 : decode b_N_gridCarriesMore 56 = .ok (.goto (-46), 3) := by decide +kernel
theorem d_N_gridCarriesMore_59 : decode b_N_gridCarriesMore 59 = .ok (.aload_n 0, 1) := by decide +kernel
theorem d_N_gridCarriesMore_60 : decode b_N_gridCarriesMore 60 = .ok (.getfield 29, 3) := by decide +kernel
theorem d_N_gridCarriesMore_63 : decode b_N_gridCarriesMore 63 = .ok (.aload_n 0, 1) := by decide +kernel
theorem d_N_gridCarriesMore_64 : decode b_N_gridCarriesMore 64 = .ok (.getfield 12, 3) := by decide +kernel
theorem d_N_gridCarriesMore_67 : decode b_N_gridCarriesMore 67 = .ok (.aload_n 0, 1) := by decide +kernel
theorem d_N_gridCarriesMore_68 : decode b_N_gridCarriesMore 68 = .ok (.getfield 23, 3) := by decide +kernel
theorem d_N_gridCarriesMore_71 : decode b_N_gridCarriesMore 71 = .ok (.iconst 0, 1) := by decide +kernel
theorem d_N_gridCarriesMore_72 : decode b_N_gridCarriesMore 72 = .ok (.iconst 0, 1) := by decide +kernel
theorem d_N_gridCarriesMore_73 : decode b_N_gridCarriesMore 73 = .ok (.invokevirtual 84, 3) := by decide +kernel
theorem d_N_gridCarriesMore_76 : decode b_N_gridCarriesMore 76 = .ok (.ifCond .ne 5, 3) := by decide +kernel
theorem d_N_gridCarriesMore_79 : decode b_N_gridCarriesMore 79 = .ok (.iconst 0, 1) := by decide +kernel
theorem d_N_gridCarriesMore_80 : decode b_N_gridCarriesMore 80 = .ok (.ireturn, 1) := by decide +kernel
theorem d_N_gridCarriesMore_81 : decode b_N_gridCarriesMore 81 = .ok (.aload_n 0, 1) := by decide +kernel
theorem d_N_gridCarriesMore_82 : decode b_N_gridCarriesMore 82 = .ok (.getfield 29, 3) := by decide +kernel
theorem d_N_gridCarriesMore_85 : decode b_N_gridCarriesMore 85 = .ok (.bipush 15, 2) := by decide +kernel
theorem d_N_gridCarriesMore_87 : decode b_N_gridCarriesMore 87 = .ok (.invokevirtual 88, 3) := by decide +kernel
theorem d_N_gridCarriesMore_90 : decode b_N_gridCarriesMore 90 = .ok (.aload_n 0, 1) := by decide +kernel
theorem d_N_gridCarriesMore_91 : decode b_N_gridCarriesMore 91 = .ok (.getfield 29, 3) := by decide +kernel
theorem d_N_gridCarriesMore_94 : decode b_N_gridCarriesMore 94 = .ok (.bipush 15, 2) := by decide +kernel
theorem d_N_gridCarriesMore_96 : decode b_N_gridCarriesMore 96 = .ok (.invokevirtual 155, 3) := by decide +kernel
theorem d_N_gridCarriesMore_99 : decode b_N_gridCarriesMore 99 = .ok (.aload_n 0, 1) := by decide +kernel
theorem d_N_gridCarriesMore_100 : decode b_N_gridCarriesMore 100 = .ok (.getfield 36, 3) := by decide +kernel
theorem d_N_gridCarriesMore_103 : decode b_N_gridCarriesMore 103 = .ok (.getfield 100, 3) := by decide +kernel
theorem d_N_gridCarriesMore_106 : decode b_N_gridCarriesMore 106 = .ok (.i2l, 1) := by decide +kernel
theorem d_N_gridCarriesMore_107 : decode b_N_gridCarriesMore 107 = .ok (.lmul, 1) := by decide +kernel
theorem d_N_gridCarriesMore_108 : decode b_N_gridCarriesMore 108 = .ok (.aload_n 0, 1) := by decide +kernel
theorem d_N_gridCarriesMore_109 : decode b_N_gridCarriesMore 109 = .ok (.invokevirtual 148, 3) := by decide +kernel
theorem d_N_gridCarriesMore_112 : decode b_N_gridCarriesMore 112 = .ok (.aload_n 0, 1) := by decide +kernel
theorem d_N_gridCarriesMore_113 : decode b_N_gridCarriesMore 113 = .ok (.getfield 29, 3) := by decide +kernel
theorem d_N_gridCarriesMore_116 : decode b_N_gridCarriesMore 116 = .ok (.getfield 159, 3) := by decide +kernel
theorem d_N_gridCarriesMore_119 : decode b_N_gridCarriesMore 119 = .ok (.lmul, 1) := by decide +kernel
theorem d_N_gridCarriesMore_120 : decode b_N_gridCarriesMore 120 = .ok (.lcmp, 1) := by decide +kernel
theorem d_N_gridCarriesMore_121 : decode b_N_gridCarriesMore 121 = .ok (.ifCond .le 7, 3) := by decide +kernel
theorem d_N_gridCarriesMore_124 : decode b_N_gridCarriesMore 124 = .ok (.iconst 1, 1) := by decide +kernel
theorem d_N_gridCarriesMore_125 : decode b_N_gridCarriesMore 125 = .ok (.goto 4, 3) := by decide +kernel
theorem d_N_gridCarriesMore_128 : decode b_N_gridCarriesMore 128 = .ok (.iconst 0, 1) := by decide +kernel
theorem d_N_gridCarriesMore_129 : decode b_N_gridCarriesMore 129 = .ok (.ireturn, 1) := by decide +kernel
theorem d_N_intakeWorth_0 : decode b_N_intakeWorth 0 = .ok (.lconst 0, 1) := by decide +kernel
theorem d_N_intakeWorth_1 : decode b_N_intakeWorth 1 = .ok (.lstore_n 1, 1) := by decide +kernel
theorem d_N_intakeWorth_2 : decode b_N_intakeWorth 2 = .ok (.iconst 0, 1) := by decide +kernel
theorem d_N_intakeWorth_3 : decode b_N_intakeWorth 3 = .ok (.istore_n 3, 1) := by decide +kernel
theorem d_N_intakeWorth_4 : decode b_N_intakeWorth 4 = .ok (.iload_n 3, 1) := by decide +kernel
theorem d_N_intakeWorth_5 : decode b_N_intakeWorth 5 = .ok (.aload_n 0, 1) := by decide +kernel
theorem d_N_intakeWorth_6 : decode b_N_intakeWorth 6 = .ok (.getfield 19, 3) := by decide +kernel
theorem d_N_intakeWorth_9 : decode b_N_intakeWorth 9 = .ok (.getfield 91, 3) := by decide +kernel
theorem d_N_intakeWorth_12 : decode b_N_intakeWorth 12 = .ok (.if_icmp .ge 49, 3) := by decide +kernel
theorem d_N_intakeWorth_15 : decode b_N_intakeWorth 15 = .ok (.lload_n 1, 1) := by decide +kernel
theorem d_N_intakeWorth_16 : decode b_N_intakeWorth 16 = .ok (.aload_n 0, 1) := by decide +kernel
theorem d_N_intakeWorth_17 : decode b_N_intakeWorth 17 = .ok (.getfield 19, 3) := by decide +kernel
theorem d_N_intakeWorth_20 : decode b_N_intakeWorth 20 = .ok (.getfield 162, 3) := by decide +kernel
theorem d_N_intakeWorth_23 : decode b_N_intakeWorth 23 = .ok (.iload_n 3, 1) := by decide +kernel
theorem d_N_intakeWorth_24 : decode b_N_intakeWorth 24 = .ok (.iaload, 1) := by decide +kernel
theorem d_N_intakeWorth_25 : decode b_N_intakeWorth 25 = .ok (.i2l, 1) := by decide +kernel
theorem d_N_intakeWorth_26 : decode b_N_intakeWorth 26 = .ok (.aload_n 0, 1) := by decide +kernel
theorem d_N_intakeWorth_27 : decode b_N_intakeWorth 27 = .ok (.getfield 36, 3) := by decide +kernel
theorem d_N_intakeWorth_30 : decode b_N_intakeWorth 30 = .ok (.getfield 103, 3) := by decide +kernel
theorem d_N_intakeWorth_33 : decode b_N_intakeWorth 33 = .ok (.iload_n 3, 1) := by decide +kernel
theorem d_N_intakeWorth_34 : decode b_N_intakeWorth 34 = .ok (.iaload, 1) := by decide +kernel
theorem d_N_intakeWorth_35 : decode b_N_intakeWorth 35 = .ok (.i2l, 1) := by decide +kernel
theorem d_N_intakeWorth_36 : decode b_N_intakeWorth 36 = .ok (.lmul, 1) := by decide +kernel
theorem d_N_intakeWorth_37 : decode b_N_intakeWorth 37 = .ok (.aload_n 0, 1) := by decide +kernel
theorem d_N_intakeWorth_38 : decode b_N_intakeWorth 38 = .ok (.getfield 40, 3) := by decide +kernel
theorem d_N_intakeWorth_41 : decode b_N_intakeWorth 41 = .ok (.aload_n 0, 1) := by decide +kernel
theorem d_N_intakeWorth_42 : decode b_N_intakeWorth 42 = .ok (.getfield 19, 3) := by decide +kernel
theorem d_N_intakeWorth_45 : decode b_N_intakeWorth 45 = .ok (.getfield 168, 3) := by decide +kernel
theorem d_N_intakeWorth_48 : decode b_N_intakeWorth 48 = .ok (.iload_n 3, 1) := by decide +kernel
theorem d_N_intakeWorth_49 : decode b_N_intakeWorth 49 = .ok (.iaload, 1) := by decide +kernel
theorem d_N_intakeWorth_50 : decode b_N_intakeWorth 50 = .ok (.iaload, 1) := by decide +kernel
theorem d_N_intakeWorth_51 : decode b_N_intakeWorth 51 = .ok (.i2l, 1) := by decide +kernel
theorem d_N_intakeWorth_52 : decode b_N_intakeWorth 52 = .ok (.lmul, 1) := by decide +kernel
theorem d_N_intakeWorth_53 : decode b_N_intakeWorth 53 = .ok (.ladd, 1) := by decide +kernel
theorem d_N_intakeWorth_54 : decode b_N_intakeWorth 54 = .ok (.lstore_n 1, 1) := by decide +kernel
theorem d_N_intakeWorth_55 : decode b_N_intakeWorth 55 = .ok (.iinc 3 1, 3) := by decide +kernel
theorem d_N_intakeWorth_58 : decode b_N_intakeWorth 58 = .ok (.goto (-54), 3) := by decide +kernel
theorem d_N_intakeWorth_61 : decode b_N_intakeWorth 61 = .ok (.lload_n 1, 1) := by decide +kernel
theorem d_N_intakeWorth_62 : decode b_N_intakeWorth 62 = .ok (.lreturn, 1) := by decide +kernel
