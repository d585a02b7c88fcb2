theorem dX0_init_0 : decode cX0_init 0 = .ok (.aload_n 0, 1) := by decide +kernel
theorem dX0_init_1 : decode cX0_init 1 = .ok (.invokespecial 3, 3) := by decide +kernel
theorem dX0_init_4 : decode cX0_init 4 = .ok (.aload_n 0, 1) := by decide +kernel
theorem dX0_init_5 : decode cX0_init 5 = .ok (.bipush 6, 2) := by decide +kernel
theorem dX0_init_7 : decode cX0_init 7 = .ok (.newarray .int, 2) := by decide +kernel
theorem dX0_init_9 : decode cX0_init 9 = .ok (.putfield 9, 3) := by decide +kernel
theorem dX0_init_12 : decode cX0_init 12 = .ok (.aload_n 0, 1) := by decide +kernel
theorem dX0_init_13 : decode cX0_init 13 = .ok (.bipush 24, 2) := by decide +kernel
theorem dX0_init_15 : decode cX0_init 15 = .ok (.newarray .int, 2) := by decide +kernel
theorem dX0_init_17 : decode cX0_init 17 = .ok (.putfield 15, 3) := by decide +kernel
theorem dX0_init_20 : decode cX0_init 20 = .ok (.aload_n 0, 1) := by decide +kernel
theorem dX0_init_21 : decode cX0_init 21 = .ok (.bipush 24, 2) := by decide +kernel
theorem dX0_init_23 : decode cX0_init 23 = .ok (.newarray .int, 2) := by decide +kernel
theorem dX0_init_25 : decode cX0_init 25 = .ok (.putfield 18, 3) := by decide +kernel
theorem dX0_init_28 : decode cX0_init 28 = .ok (.return_, 1) := by decide +kernel
theorem dX0_hindrance_0 : decode cX0_hindrance 0 = .ok (.aload_n 1, 1) := by decide +kernel
theorem dX0_hindrance_1 : decode cX0_hindrance 1 = .ok (.iload_n 2, 1) := by decide +kernel
theorem dX0_hindrance_2 : decode cX0_hindrance 2 = .ok (.invokevirtual 21, 3) := by decide +kernel
theorem dX0_hindrance_5 : decode cX0_hindrance 5 = .ok (.astore_n 3, 1) := by decide +kernel
theorem dX0_hindrance_6 : decode cX0_hindrance 6 = .ok (.aload_n 1, 1) := by decide +kernel
theorem dX0_hindrance_7 : decode cX0_hindrance 7 = .ok (.iload_n 2, 1) := by decide +kernel
theorem dX0_hindrance_8 : decode cX0_hindrance 8 = .ok (.invokevirtual 27, 3) := by decide +kernel
theorem dX0_hindrance_11 : decode cX0_hindrance 11 = .ok (.ifCond .eq 5, 3) := by decide +kernel
theorem dX0_hindrance_14 : decode cX0_hindrance 14 = .ok (.iconst 1, 1) := by decide +kernel
theorem dX0_hindrance_15 : decode cX0_hindrance 15 = .ok (.ireturn, 1) := by decide +kernel
theorem dX0_hindrance_16 : decode cX0_hindrance 16 = .ok (.aload_n 3, 1) := by decide +kernel
theorem dX0_hindrance_17 : decode cX0_hindrance 17 = .ok (.getfield 31, 3) := by decide +kernel
theorem dX0_hindrance_20 : decode cX0_hindrance 20 = .ok (.ifCond .eq 5, 3) := by decide +kernel
theorem dX0_hindrance_23 : decode cX0_hindrance 23 = .ok (.iconst 2, 1) := by decide +kernel
theorem dX0_hindrance_24 : decode cX0_hindrance 24 = .ok (.ireturn, 1) := by decide +kernel
theorem dX0_hindrance_25 : decode cX0_hindrance 25 = .ok (.aload_n 3, 1) := by decide +kernel
theorem dX0_hindrance_26 : decode cX0_hindrance 26 = .ok (.getfield 37, 3) := by decide +kernel
theorem dX0_hindrance_29 : decode cX0_hindrance 29 = .ok (.aload_n 0, 1) := by decide +kernel
theorem dX0_hindrance_30 : decode cX0_hindrance 30 = .ok (.getfield 40, 3) := by decide +kernel
theorem dX0_hindrance_33 : decode cX0_hindrance 33 = .ok (.if_icmp .le 5, 3) := by decide +kernel
theorem dX0_hindrance_36 : decode cX0_hindrance 36 = .ok (.iconst 3, 1) := by decide +kernel
theorem dX0_hindrance_37 : decode cX0_hindrance 37 = .ok (.ireturn, 1) := by decide +kernel
theorem dX0_hindrance_38 : decode cX0_hindrance 38 = .ok (.aload_n 0, 1) := by decide +kernel
theorem dX0_hindrance_39 : decode cX0_hindrance 39 = .ok (.aload_n 1, 1) := by decide +kernel
theorem dX0_hindrance_40 : decode cX0_hindrance 40 = .ok (.iload_n 2, 1) := by decide +kernel
theorem dX0_hindrance_41 : decode cX0_hindrance 41 = .ok (.invokestatic 45, 3) := by decide +kernel
theorem dX0_hindrance_44 : decode cX0_hindrance 44 = .ok (.ifCond .eq 5, 3) := by decide +kernel
theorem dX0_hindrance_47 : decode cX0_hindrance 47 = .ok (.iconst 4, 1) := by decide +kernel
theorem dX0_hindrance_48 : decode cX0_hindrance 48 = .ok (.ireturn, 1) := by decide +kernel
theorem dX0_hindrance_49 : decode cX0_hindrance 49 = .ok (.aload_n 0, 1) := by decide +kernel
theorem dX0_hindrance_50 : decode cX0_hindrance 50 = .ok (.aload_n 1, 1) := by decide +kernel
theorem dX0_hindrance_51 : decode cX0_hindrance 51 = .ok (.getfield 49, 3) := by decide +kernel
theorem dX0_hindrance_54 : decode cX0_hindrance 54 = .ok (.iload_n 2, 1) := by decide +kernel
theorem dX0_hindrance_55 : decode cX0_hindrance 55 = .ok (.invokestatic 52, 3) := by decide +kernel
theorem dX0_hindrance_58 : decode cX0_hindrance 58 = .ok (.ifCond .eq 7, 3) := by decide +kernel
theorem dX0_hindrance_61 : decode cX0_hindrance 61 = .ok (.iconst 5, 1) := by decide +kernel
theorem dX0_hindrance_62 : decode cX0_hindrance 62 = .ok (.goto 4, 3) := by decide +kernel
theorem dX0_hindrance_65 : decode cX0_hindrance 65 = .ok (.iconst 0, 1) := by decide +kernel
theorem dX0_hindrance_66 : decode cX0_hindrance 66 = .ok (.ireturn, 1) := by decide +kernel
theorem dX0_isLesserWaiting_0 : decode cX0_isLesserWaiting 0 = .ok (.iconst 0, 1) := by decide +kernel
theorem dX0_isLesserWaiting_1 : decode cX0_isLesserWaiting 1 = .ok (.istore_n 3, 1) := by decide +kernel
theorem dX0_isLesserWaiting_2 : decode cX0_isLesserWaiting 2 = .ok (.iload_n 3, 1) := by decide +kernel
theorem dX0_isLesserWaiting_3 : decode cX0_isLesserWaiting 3 = .ok (.aload_n 0, 1) := by decide +kernel
theorem dX0_isLesserWaiting_4 : decode cX0_isLesserWaiting 4 = .ok (.getfield 56, 3) := by decide +kernel
theorem dX0_isLesserWaiting_7 : decode cX0_isLesserWaiting 7 = .ok (.if_icmp .ge 78, 3) := by decide +kernel
theorem dX0_isLesserWaiting_10 : decode cX0_isLesserWaiting 10 = .ok (.aload_n 0, 1) := by decide +kernel
theorem dX0_isLesserWaiting_11 : decode cX0_isLesserWaiting 11 = .ok (.getfield 59, 3) := by decide +kernel
theorem dX0_isLesserWaiting_14 : decode cX0_isLesserWaiting 14 = .ok (.iload_n 3, 1) := by decide +kernel
theorem dX0_isLesserWaiting_15 : decode cX0_isLesserWaiting 15 = .ok (.aaload, 1) := by decide +kernel
theorem dX0_isLesserWaiting_16 : decode cX0_isLesserWaiting 16 = .ok (.astore 4, 2) := by decide +kernel
theorem dX0_isLesserWaiting_18 : decode cX0_isLesserWaiting 18 = .ok (.aload 4, 2) := by decide +kernel
theorem dX0_isLesserWaiting_20 : decode cX0_isLesserWaiting 20 = .ok (.getfield 63, 3) := by decide +kernel
theorem dX0_isLesserWaiting_23 : decode cX0_isLesserWaiting 23 = .ok (.aload_n 1, 1) := by decide +kernel
theorem dX0_isLesserWaiting_24 : decode cX0_isLesserWaiting 24 = .ok (.getfield 63, 3) := by decide +kernel
theorem dX0_isLesserWaiting_27 : decode cX0_isLesserWaiting 27 = .ok (.if_icmp .lt 5, 3) := by decide +kernel
theorem dX0_isLesserWaiting_30 : decode cX0_isLesserWaiting 30 = .ok (.iconst 0, 1) := by decide +kernel
theorem dX0_isLesserWaiting_31 : decode cX0_isLesserWaiting 31 = .ok (.ireturn, 1) := by decide +kernel
theorem dX0_isLesserWaiting_32 : decode cX0_isLesserWaiting 32 = .ok (.aload 4, 2) := by decide +kernel
theorem dX0_isLesserWaiting_34 : decode cX0_isLesserWaiting 34 = .ok (.getfield 49, 3) := by decide +kernel
theorem dX0_isLesserWaiting_37 : decode cX0_isLesserWaiting 37 = .ok (.aload_n 1, 1) := by decide +kernel
theorem dX0_isLesserWaiting_38 : decode cX0_isLesserWaiting 38 = .ok (.getfield 49, 3) := by decide +kernel
theorem dX0_isLesserWaiting_41 : decode cX0_isLesserWaiting 41 = .ok (.if_icmp .ne 16, 3) := by decide +kernel
theorem dX0_isLesserWaiting_44 : decode cX0_isLesserWaiting 44 = .ok (.aload 4, 2) := by decide +kernel
theorem dX0_isLesserWaiting_46 : decode cX0_isLesserWaiting 46 = .ok (.iload_n 2, 1) := by decide +kernel
theorem dX0_isLesserWaiting_47 : decode cX0_isLesserWaiting 47 = .ok (.invokevirtual 66, 3) := by decide +kernel
theorem dX0_isLesserWaiting_50 : decode cX0_isLesserWaiting 50 = .ok (.ifCond .eq 7, 3) := by decide +kernel
theorem dX0_isLesserWaiting_53 : decode cX0_isLesserWaiting 53 = .ok (.iconst 1, 1) := by decide +kernel
theorem dX0_isLesserWaiting_54 : decode cX0_isLesserWaiting 54 = .ok (.goto 4, 3) := by decide +kernel
theorem dX0_isLesserWaiting_57 : decode cX0_isLesserWaiting 57 = .ok (.iconst 0, 1) := by decide +kernel
theorem dX0_isLesserWaiting_58 : decode cX0_isLesserWaiting 58 = .ok (.istore 5, 2) := by decide +kernel
theorem dX0_isLesserWaiting_60 : decode cX0_isLesserWaiting 60 = .ok (.iload 5, 2) := by decide +kernel
theorem dX0_isLesserWaiting_62 : decode cX0_isLesserWaiting 62 = .ok (.ifCond .eq 17, 3) := by decide +kernel
theorem dX0_isLesserWaiting_65 : decode cX0_isLesserWaiting 65 = .ok (.aload 4, 2) := by decide +kernel
theorem dX0_isLesserWaiting_67 : decode cX0_isLesserWaiting 67 = .ok (.iload_n 2, 1) := by decide +kernel
theorem dX0_isLesserWaiting_68 : decode cX0_isLesserWaiting 68 = .ok (.invokevirtual 21, 3) := by decide +kernel
theorem dX0_isLesserWaiting_71 : decode cX0_isLesserWaiting 71 = .ok (.getfield 31, 3) := by decide +kernel
theorem dX0_isLesserWaiting_74 : decode cX0_isLesserWaiting 74 = .ok (.ifCond .ne 5, 3) := by decide +kernel
theorem dX0_isLesserWaiting_77 : decode cX0_isLesserWaiting 77 = .ok (.iconst 1, 1) := by decide +kernel
theorem dX0_isLesserWaiting_78 : decode cX0_isLesserWaiting 78 = .ok (.ireturn, 1) := by decide +kernel
theorem dX0_isLesserWaiting_79 : decode cX0_isLesserWaiting 79 = .ok (.iinc 3 1, 3) := by decide +kernel
theorem dX0_isLesserWaiting_82 : decode cX0_isLesserWaiting 82 = .ok (.goto (-80), 3) := by decide +kernel
theorem dX0_isLesserWaiting_85 : decode cX0_isLesserWaiting 85 = .ok (.iconst 0, 1) := by decide +kernel
theorem dX0_isLesserWaiting_86 : decode cX0_isLesserWaiting 86 = .ok (.ireturn, 1) := by decide +kernel
theorem dX0_isGroupFull_0 : decode cX0_isGroupFull 0 = .ok (.iconst 0, 1) := by decide +kernel
theorem dX0_isGroupFull_1 : decode cX0_isGroupFull 1 = .ok (.istore_n 3, 1) := by decide +kernel
theorem dX0_isGroupFull_2 : decode cX0_isGroupFull 2 = .ok (.iconst 0, 1) := by decide +kernel
theorem dX0_isGroupFull_3 : decode cX0_isGroupFull 3 = .ok (.istore 4, 2) := by decide +kernel
theorem dX0_isGroupFull_5 : decode cX0_isGroupFull 5 = .ok (.iload 4, 2) := by decide +kernel
theorem dX0_isGroupFull_7 : decode cX0_isGroupFull 7 = .ok (.aload_n 0, 1) := by decide +kernel
theorem dX0_isGroupFull_8 : decode cX0_isGroupFull 8 = .ok (.getfield 56, 3) := by decide +kernel
theorem dX0_isGroupFull_11 : decode cX0_isGroupFull 11 = .ok (.if_icmp .ge 64, 3) := by decide +kernel
theorem dX0_isGroupFull_14 : decode cX0_isGroupFull 14 = .ok (.aload_n 0, 1) := by decide +kernel
theorem dX0_isGroupFull_15 : decode cX0_isGroupFull 15 = .ok (.getfield 59, 3) := by decide +kernel
theorem dX0_isGroupFull_18 : decode cX0_isGroupFull 18 = .ok (.iload 4, 2) := by decide +kernel
theorem dX0_isGroupFull_20 : decode cX0_isGroupFull 20 = .ok (.aaload, 1) := by decide +kernel
theorem dX0_isGroupFull_21 : decode cX0_isGroupFull 21 = .ok (.astore 5, 2) := by decide +kernel
theorem dX0_isGroupFull_23 : decode cX0_isGroupFull 23 = .ok (.aload 5, 2) := by decide +kernel
theorem dX0_isGroupFull_25 : decode cX0_isGroupFull 25 = .ok (.iload_n 2, 1) := by decide +kernel
theorem dX0_isGroupFull_26 : decode cX0_isGroupFull 26 = .ok (.invokevirtual 27, 3) := by decide +kernel
theorem dX0_isGroupFull_29 : decode cX0_isGroupFull 29 = .ok (.ifCond .ne 16, 3) := by decide +kernel
theorem dX0_isGroupFull_32 : decode cX0_isGroupFull 32 = .ok (.aload 5, 2) := by decide +kernel
theorem dX0_isGroupFull_34 : decode cX0_isGroupFull 34 = .ok (.iload_n 2, 1) := by decide +kernel
theorem dX0_isGroupFull_35 : decode cX0_isGroupFull 35 = .ok (.invokevirtual 21, 3) := by decide +kernel
theorem dX0_isGroupFull_38 : decode cX0_isGroupFull 38 = .ok (.getfield 31, 3) := by decide +kernel
theorem dX0_isGroupFull_41 : decode cX0_isGroupFull 41 = .ok (.iconst 1, 1) := by decide +kernel
theorem dX0_isGroupFull_42 : decode cX0_isGroupFull 42 = .ok (.if_icmp .ne 7, 3) := by decide +kernel
theorem dX0_isGroupFull_45 : decode cX0_isGroupFull 45 = .ok (.iconst 1, 1) := by decide +kernel
theorem dX0_isGroupFull_46 : decode cX0_isGroupFull 46 = .ok (.goto 4, 3) := by decide +kernel
theorem dX0_isGroupFull_49 : decode cX0_isGroupFull 49 = .ok (.iconst 0, 1) := by decide +kernel
theorem dX0_isGroupFull_50 : decode cX0_isGroupFull 50 = .ok (.istore 6, 2) := by decide +kernel
theorem dX0_isGroupFull_52 : decode cX0_isGroupFull 52 = .ok (.aload 5, 2) := by decide +kernel
theorem dX0_isGroupFull_54 : decode cX0_isGroupFull 54 = .ok (.getfield 49, 3) := by decide +kernel
theorem dX0_isGroupFull_57 : decode cX0_isGroupFull 57 = .ok (.iload_n 1, 1) := by decide +kernel
theorem dX0_isGroupFull_58 : decode cX0_isGroupFull 58 = .ok (.if_icmp .ne 11, 3) := by decide +kernel
theorem dX0_isGroupFull_61 : decode cX0_isGroupFull 61 = .ok (.iload 6, 2) := by decide +kernel
theorem dX0_isGroupFull_63 : decode cX0_isGroupFull 63 = .ok (.ifCond .eq 6, 3) := by decide +kernel
theorem dX0_isGroupFull_66 : decode cX0_isGroupFull 66 = .ok (.iinc 3 1, 3) := by decide +kernel
theorem dX0_isGroupFull_69 : decode cX0_isGroupFull 69 = .ok (.iinc 4 1, 3) := by decide +kernel
theorem dX0_isGroupFull_72 : decode cX0_isGroupFull 72 = .ok (.goto (-67), 3) := by decide +kernel
theorem dX0_isGroupFull_75 : decode cX0_isGroupFull 75 = .ok (.iload_n 3, 1) := by decide +kernel
theorem dX0_isGroupFull_76 : decode cX0_isGroupFull 76 = .ok (.aload_n 0, 1) := by decide +kernel
theorem dX0_isGroupFull_77 : decode cX0_isGroupFull 77 = .ok (.getfield 69, 3) := by decide +kernel
theorem dX0_isGroupFull_80 : decode cX0_isGroupFull 80 = .ok (.iload_n 1, 1) := by decide +kernel
theorem dX0_isGroupFull_81 : decode cX0_isGroupFull 81 = .ok (.iaload, 1) := by decide +kernel
theorem dX0_isGroupFull_82 : decode cX0_isGroupFull 82 = .ok (.if_icmp .lt 7, 3) := by decide +kernel
theorem dX0_isGroupFull_85 : decode cX0_isGroupFull 85 = .ok (.iconst 1, 1) := by decide +kernel
theorem dX0_isGroupFull_86 : decode cX0_isGroupFull 86 = .ok (.goto 4, 3) := by decide +kernel
theorem dX0_isGroupFull_89 : decode cX0_isGroupFull 89 = .ok (.iconst 0, 1) := by decide +kernel
theorem dX0_isGroupFull_90 : decode cX0_isGroupFull 90 = .ok (.ireturn, 1) := by decide +kernel
theorem dX0_barOfUnclaimed_0 : decode cX0_barOfUnclaimed 0 = .ok (.aload_n 0, 1) := by decide +kernel
theorem dX0_barOfUnclaimed_1 : decode cX0_barOfUnclaimed 1 = .ok (.aload_n 1, 1) := by decide +kernel
theorem dX0_barOfUnclaimed_2 : decode cX0_barOfUnclaimed 2 = .ok (.iload_n 2, 1) := by decide +kernel
theorem dX0_barOfUnclaimed_3 : decode cX0_barOfUnclaimed 3 = .ok (.invokestatic 72, 3) := by decide +kernel
theorem dX0_barOfUnclaimed_6 : decode cX0_barOfUnclaimed 6 = .ok (.istore_n 3, 1) := by decide +kernel
theorem dX0_barOfUnclaimed_7 : decode cX0_barOfUnclaimed 7 = .ok (.iload_n 3, 1) := by decide +kernel
theorem dX0_barOfUnclaimed_8 : decode cX0_barOfUnclaimed 8 = .ok (.ifCond .eq 5, 3) := by decide +kernel
theorem dX0_barOfUnclaimed_11 : decode cX0_barOfUnclaimed 11 = .ok (.iload_n 3, 1) := by decide +kernel
theorem dX0_barOfUnclaimed_12 : decode cX0_barOfUnclaimed 12 = .ok (.ireturn, 1) := by decide +kernel
theorem dX0_barOfUnclaimed_13 : decode cX0_barOfUnclaimed 13 = .ok (.aload_n 0, 1) := by decide +kernel
theorem dX0_barOfUnclaimed_14 : decode cX0_barOfUnclaimed 14 = .ok (.getfield 76, 3) := by decide +kernel
theorem dX0_barOfUnclaimed_17 : decode cX0_barOfUnclaimed 17 = .ok (.iload_n 2, 1) := by decide +kernel
theorem dX0_barOfUnclaimed_18 : decode cX0_barOfUnclaimed 18 = .ok (.aaload, 1) := by decide +kernel
theorem dX0_barOfUnclaimed_19 : decode cX0_barOfUnclaimed 19 = .ok (.getfield 80, 3) := by decide +kernel
theorem dX0_barOfUnclaimed_22 : decode cX0_barOfUnclaimed 22 = .ok (.aload_n 0, 1) := by decide +kernel
theorem dX0_barOfUnclaimed_23 : decode cX0_barOfUnclaimed 23 = .ok (.aload_n 1, 1) := by decide +kernel
theorem dX0_barOfUnclaimed_24 : decode cX0_barOfUnclaimed 24 = .ok (.iload_n 2, 1) := by decide +kernel
theorem dX0_barOfUnclaimed_25 : decode cX0_barOfUnclaimed 25 = .ok (.invokevirtual 86, 3) := by decide +kernel
theorem dX0_barOfUnclaimed_28 : decode cX0_barOfUnclaimed 28 = .ok (.istore 4, 2) := by decide +kernel
theorem dX0_barOfUnclaimed_30 : decode cX0_barOfUnclaimed 30 = .ok (.iload 4, 2) := by decide +kernel
theorem dX0_barOfUnclaimed_32 : decode cX0_barOfUnclaimed 32 = .ok (.ifCond .eq 8, 3) := by decide +kernel
theorem dX0_barOfUnclaimed_35 : decode cX0_barOfUnclaimed 35 = .ok (.bipush 7, 2) := by decide +kernel
theorem dX0_barOfUnclaimed_37 : decode cX0_barOfUnclaimed 37 = .ok (.goto 5, 3) := by decide +kernel
theorem dX0_barOfUnclaimed_40 : decode cX0_barOfUnclaimed 40 = .ok (.bipush 6, 2) := by decide +kernel
theorem dX0_barOfUnclaimed_42 : decode cX0_barOfUnclaimed 42 = .ok (.ireturn, 1) := by decide +kernel
theorem dX0_placeToClaim_0 : decode cX0_placeToClaim 0 = .ok (.aload_n 0, 1) := by decide +kernel
theorem dX0_placeToClaim_1 : decode cX0_placeToClaim 1 = .ok (.getfield 76, 3) := by decide +kernel
theorem dX0_placeToClaim_4 : decode cX0_placeToClaim 4 = .ok (.iload_n 1, 1) := by decide +kernel
theorem dX0_placeToClaim_5 : decode cX0_placeToClaim 5 = .ok (.aaload, 1) := by decide +kernel
theorem dX0_placeToClaim_6 : decode cX0_placeToClaim 6 = .ok (.getfield 80, 3) := by decide +kernel
theorem dX0_placeToClaim_9 : decode cX0_placeToClaim 9 = .ok (.astore_n 2, 1) := by decide +kernel
theorem dX0_placeToClaim_10 : decode cX0_placeToClaim 10 = .ok (.iconst (-1), 1) := by decide +kernel
theorem dX0_placeToClaim_11 : decode cX0_placeToClaim 11 = .ok (.istore_n 3, 1) := by decide +kernel
theorem dX0_placeToClaim_12 : decode cX0_placeToClaim 12 = .ok (.iconst 0, 1) := by decide +kernel
theorem dX0_placeToClaim_13 : decode cX0_placeToClaim 13 = .ok (.istore 4, 2) := by decide +kernel
theorem dX0_placeToClaim_15 : decode cX0_placeToClaim 15 = .ok (.iload 4, 2) := by decide +kernel
theorem dX0_placeToClaim_17 : decode cX0_placeToClaim 17 = .ok (.aload_n 0, 1) := by decide +kernel
theorem dX0_placeToClaim_18 : decode cX0_placeToClaim 18 = .ok (.getfield 56, 3) := by decide +kernel
theorem dX0_placeToClaim_21 : decode cX0_placeToClaim 21 = .ok (.if_icmp .ge 85, 3) := by decide +kernel
theorem dX0_placeToClaim_24 : decode cX0_placeToClaim 24 = .ok (.aload_n 0, 1) := by decide +kernel
theorem dX0_placeToClaim_25 : decode cX0_placeToClaim 25 = .ok (.getfield 59, 3) := by decide +kernel
theorem dX0_placeToClaim_28 : decode cX0_placeToClaim 28 = .ok (.iload 4, 2) := by decide +kernel
theorem dX0_placeToClaim_30 : decode cX0_placeToClaim 30 = .ok (.aaload, 1) := by decide +kernel
theorem dX0_placeToClaim_31 : decode cX0_placeToClaim 31 = .ok (.astore 5, 2) := by decide +kernel
theorem dX0_placeToClaim_33 : decode cX0_placeToClaim 33 = .ok (.aload 5, 2) := by decide +kernel
theorem dX0_placeToClaim_35 : decode cX0_placeToClaim 35 = .ok (.iload_n 1, 1) := by decide +kernel
theorem dX0_placeToClaim_36 : decode cX0_placeToClaim 36 = .ok (.invokevirtual 66, 3) := by decide +kernel
theorem dX0_placeToClaim_39 : decode cX0_placeToClaim 39 = .ok (.ifCond .eq 28, 3) := by decide +kernel
theorem dX0_placeToClaim_42 : decode cX0_placeToClaim 42 = .ok (.aload_n 0, 1) := by decide +kernel
theorem dX0_placeToClaim_43 : decode cX0_placeToClaim 43 = .ok (.aload 5, 2) := by decide +kernel
theorem dX0_placeToClaim_45 : decode cX0_placeToClaim 45 = .ok (.iload_n 1, 1) := by decide +kernel
theorem dX0_placeToClaim_46 : decode cX0_placeToClaim 46 = .ok (.invokestatic 72, 3) := by decide +kernel
theorem dX0_placeToClaim_49 : decode cX0_placeToClaim 49 = .ok (.ifCond .ne 18, 3) := by decide +kernel
theorem dX0_placeToClaim_52 : decode cX0_placeToClaim 52 = .ok (.aload_n 2, 1) := by decide +kernel
theorem dX0_placeToClaim_53 : decode cX0_placeToClaim 53 = .ok (.aload_n 0, 1) := by decide +kernel
theorem dX0_placeToClaim_54 : decode cX0_placeToClaim 54 = .ok (.aload 5, 2) := by decide +kernel
theorem dX0_placeToClaim_56 : decode cX0_placeToClaim 56 = .ok (.iload_n 1, 1) := by decide +kernel
theorem dX0_placeToClaim_57 : decode cX0_placeToClaim 57 = .ok (.invokevirtual 86, 3) := by decide +kernel
theorem dX0_placeToClaim_60 : decode cX0_placeToClaim 60 = .ok (.ifCond .eq 7, 3) := by decide +kernel
theorem dX0_placeToClaim_63 : decode cX0_placeToClaim 63 = .ok (.iconst 1, 1) := by decide +kernel
theorem dX0_placeToClaim_64 : decode cX0_placeToClaim 64 = .ok (.goto 4, 3) := by decide +kernel
theorem dX0_placeToClaim_67 : decode cX0_placeToClaim 67 = .ok (.iconst 0, 1) := by decide +kernel
theorem dX0_placeToClaim_68 : decode cX0_placeToClaim 68 = .ok (.istore 6, 2) := by decide +kernel
theorem dX0_placeToClaim_70 : decode cX0_placeToClaim 70 = .ok (.iload 6, 2) := by decide +kernel
theorem dX0_placeToClaim_72 : decode cX0_placeToClaim 72 = .ok (.ifCond .eq 28, 3) := by decide +kernel
theorem dX0_placeToClaim_75 : decode cX0_placeToClaim 75 = .ok (.iload_n 3, 1) := by decide +kernel
theorem dX0_placeToClaim_76 : decode cX0_placeToClaim 76 = .ok (.iconst (-1), 1) := by decide +kernel
theorem dX0_placeToClaim_77 : decode cX0_placeToClaim 77 = .ok (.if_icmp .eq 20, 3) := by decide +kernel
theorem dX0_placeToClaim_80 : decode cX0_placeToClaim 80 = .ok (.aload_n 2, 1) := by decide +kernel
theorem dX0_placeToClaim_81 : decode cX0_placeToClaim 81 = .ok (.aload_n 0, 1) := by decide +kernel
theorem dX0_placeToClaim_82 : decode cX0_placeToClaim 82 = .ok (.aload 5, 2) := by decide +kernel
theorem dX0_placeToClaim_84 : decode cX0_placeToClaim 84 = .ok (.aload_n 0, 1) := by decide +kernel
theorem dX0_placeToClaim_85 : decode cX0_placeToClaim 85 = .ok (.getfield 59, 3) := by decide +kernel
theorem dX0_placeToClaim_88 : decode cX0_placeToClaim 88 = .ok (.iload_n 3, 1) := by decide +kernel
theorem dX0_placeToClaim_89 : decode cX0_placeToClaim 89 = .ok (.aaload, 1) := by decide +kernel
theorem dX0_placeToClaim_90 : decode cX0_placeToClaim 90 = .ok (.iload_n 1, 1) := by decide +kernel
theorem dX0_placeToClaim_91 : decode cX0_placeToClaim 91 = .ok (.invokevirtual 91, 3) := by decide +kernel
theorem dX0_placeToClaim_94 : decode cX0_placeToClaim 94 = .ok (.ifCond .eq 6, 3) := by decide +kernel
theorem dX0_placeToClaim_97 : decode cX0_placeToClaim 97 = .ok (.iload 4, 2) := by decide +kernel
theorem dX0_placeToClaim_99 : decode cX0_placeToClaim 99 = .ok (.istore_n 3, 1) := by decide +kernel
theorem dX0_placeToClaim_100 : decode cX0_placeToClaim 100 = .ok (.iinc 4 1, 3) := by decide +kernel
theorem dX0_placeToClaim_103 : decode cX0_placeToClaim 103 = .ok (.goto (-88), 3) := by decide +kernel
theorem dX0_placeToClaim_106 : decode cX0_placeToClaim 106 = .ok (.iload_n 3, 1) := by decide +kernel
theorem dX0_placeToClaim_107 : decode cX0_placeToClaim 107 = .ok (.ireturn, 1) := by decide +kernel
theorem dX0_hold_0 : decode cX0_hold 0 = .ok (.aload_n 0, 1) := by decide +kernel
theorem dX0_hold_1 : decode cX0_hold 1 = .ok (.getfield 59, 3) := by decide +kernel
theorem dX0_hold_4 : decode cX0_hold 4 = .ok (.iload_n 1, 1) := by decide +kernel
theorem dX0_hold_5 : decode cX0_hold 5 = .ok (.aaload, 1) := by decide +kernel
theorem dX0_hold_6 : decode cX0_hold 6 = .ok (.astore_n 3, 1) := by decide +kernel
theorem dX0_hold_7 : decode cX0_hold 7 = .ok (.aload_n 3, 1) := by decide +kernel
theorem dX0_hold_8 : decode cX0_hold 8 = .ok (.iload_n 2, 1) := by decide +kernel
theorem dX0_hold_9 : decode cX0_hold 9 = .ok (.invokevirtual 95, 3) := by decide +kernel
theorem dX0_hold_12 : decode cX0_hold 12 = .ok (.astore 4, 2) := by decide +kernel
theorem dX0_hold_14 : decode cX0_hold 14 = .ok (.aload_n 0, 1) := by decide +kernel
theorem dX0_hold_15 : decode cX0_hold 15 = .ok (.dup, 1) := by decide +kernel
theorem dX0_hold_16 : decode cX0_hold 16 = .ok (.getfield 98, 3) := by decide +kernel
theorem dX0_hold_19 : decode cX0_hold 19 = .ok (.iconst 1, 1) := by decide +kernel
theorem dX0_hold_20 : decode cX0_hold 20 = .ok (.iadd, 1) := by decide +kernel
theorem dX0_hold_21 : decode cX0_hold 21 = .ok (.putfield 98, 3) := by decide +kernel
theorem dX0_hold_24 : decode cX0_hold 24 = .ok (.aload 4, 2) := by decide +kernel
theorem dX0_hold_26 : decode cX0_hold 26 = .ok (.iconst 1, 1) := by decide +kernel
theorem dX0_hold_27 : decode cX0_hold 27 = .ok (.putfield 31, 3) := by decide +kernel
theorem dX0_hold_30 : decode cX0_hold 30 = .ok (.aload 4, 2) := by decide +kernel
theorem dX0_hold_32 : decode cX0_hold 32 = .ok (.iload_n 2, 1) := by decide +kernel
theorem dX0_hold_33 : decode cX0_hold 33 = .ok (.putfield 101, 3) := by decide +kernel
theorem dX0_hold_36 : decode cX0_hold 36 = .ok (.aload 4, 2) := by decide +kernel
theorem dX0_hold_38 : decode cX0_hold 38 = .ok (.aload_n 0, 1) := by decide +kernel
theorem dX0_hold_39 : decode cX0_hold 39 = .ok (.getfield 98, 3) := by decide +kernel
theorem dX0_hold_42 : decode cX0_hold 42 = .ok (.putfield 104, 3) := by decide +kernel
theorem dX0_hold_45 : decode cX0_hold 45 = .ok (.aload 4, 2) := by decide +kernel
theorem dX0_hold_47 : decode cX0_hold 47 = .ok (.aload_n 0, 1) := by decide +kernel
theorem dX0_hold_48 : decode cX0_hold 48 = .ok (.getfield 40, 3) := by decide +kernel
theorem dX0_hold_51 : decode cX0_hold 51 = .ok (.aload_n 0, 1) := by decide +kernel
theorem dX0_hold_52 : decode cX0_hold 52 = .ok (.getfield 107, 3) := by decide +kernel
theorem dX0_hold_55 : decode cX0_hold 55 = .ok (.iconst 0, 1) := by decide +kernel
theorem dX0_hold_56 : decode cX0_hold 56 = .ok (.iaload, 1) := by decide +kernel
theorem dX0_hold_57 : decode cX0_hold 57 = .ok (.iadd, 1) := by decide +kernel
theorem dX0_hold_58 : decode cX0_hold 58 = .ok (.putfield 110, 3) := by decide +kernel
theorem dX0_hold_61 : decode cX0_hold 61 = .ok (.aload_n 0, 1) := by decide +kernel
theorem dX0_hold_62 : decode cX0_hold 62 = .ok (.getfield 76, 3) := by decide +kernel
theorem dX0_hold_65 : decode cX0_hold 65 = .ok (.iload_n 2, 1) := by decide +kernel
theorem dX0_hold_66 : decode cX0_hold 66 = .ok (.aaload, 1) := by decide +kernel
theorem dX0_hold_67 : decode cX0_hold 67 = .ok (.aload_n 3, 1) := by decide +kernel
theorem dX0_hold_68 : decode cX0_hold 68 = .ok (.getfield 49, 3) := by decide +kernel
theorem dX0_hold_71 : decode cX0_hold 71 = .ok (.putfield 113, 3) := by decide +kernel
theorem dX0_hold_74 : decode cX0_hold 74 = .ok (.return_, 1) := by decide +kernel
theorem dX0_claimAll_0 : decode cX0_claimAll 0 = .ok (.aload_n 1, 1) := by decide +kernel
theorem dX0_claimAll_1 : decode cX0_claimAll 1 = .ok (.getfield 76, 3) := by decide +kernel
theorem dX0_claimAll_4 : decode cX0_claimAll 4 = .ok (.iload_n 2, 1) := by decide +kernel
theorem dX0_claimAll_5 : decode cX0_claimAll 5 = .ok (.aaload, 1) := by decide +kernel
theorem dX0_claimAll_6 : decode cX0_claimAll 6 = .ok (.getfield 80, 3) := by decide +kernel
theorem dX0_claimAll_9 : decode cX0_claimAll 9 = .ok (.getfield 116, 3) := by decide +kernel
theorem dX0_claimAll_12 : decode cX0_claimAll 12 = .ok (.bipush 6, 2) := by decide +kernel
theorem dX0_claimAll_14 : decode cX0_claimAll 14 = .ok (.invokestatic 119, 3) := by decide +kernel
theorem dX0_claimAll_17 : decode cX0_claimAll 17 = .ok (.istore_n 3, 1) := by decide +kernel
theorem dX0_claimAll_18 : decode cX0_claimAll 18 = .ok (.aload_n 0, 1) := by decide +kernel
theorem dX0_claimAll_19 : decode cX0_claimAll 19 = .ok (.iconst 0, 1) := by decide +kernel
theorem dX0_claimAll_20 : decode cX0_claimAll 20 = .ok (.putfield 125, 3) := by decide +kernel
theorem dX0_claimAll_23 : decode cX0_claimAll 23 = .ok (.iconst 0, 1) := by decide +kernel
theorem dX0_claimAll_24 : decode cX0_claimAll 24 = .ok (.istore 4, 2) := by decide +kernel
theorem dX0_claimAll_26 : decode cX0_claimAll 26 = .ok (.iload 4, 2) := by decide +kernel
theorem dX0_claimAll_28 : decode cX0_claimAll 28 = .ok (.iload_n 3, 1) := by decide +kernel
theorem dX0_claimAll_29 : decode cX0_claimAll 29 = .ok (.if_icmp .ge 65, 3) := by decide +kernel
theorem dX0_claimAll_32 : decode cX0_claimAll 32 = .ok (.aload_n 1, 1) := by decide +kernel
theorem dX0_claimAll_33 : decode cX0_claimAll 33 = .ok (.iload_n 2, 1) := by decide +kernel
theorem dX0_claimAll_34 : decode cX0_claimAll 34 = .ok (.invokestatic 128, 3) := by decide +kernel
theorem dX0_claimAll_37 : decode cX0_claimAll 37 = .ok (.istore 5, 2) := by decide +kernel
theorem dX0_claimAll_39 : decode cX0_claimAll 39 = .ok (.iload 5, 2) := by decide +kernel
theorem dX0_claimAll_41 : decode cX0_claimAll 41 = .ok (.iconst (-1), 1) := by decide +kernel
theorem dX0_claimAll_42 : decode cX0_claimAll 42 = .ok (.if_icmp .ne 4, 3) := by decide +kernel
theorem dX0_claimAll_45 : decode cX0_claimAll 45 = .ok (.return_, 1) := by decide +kernel
theorem dX0_claimAll_46 : decode cX0_claimAll 46 = .ok (.aload_n 1, 1) := by decide +kernel
theorem dX0_claimAll_47 : decode cX0_claimAll 47 = .ok (.iload 5, 2) := by decide +kernel
theorem dX0_claimAll_49 : decode cX0_claimAll 49 = .ok (.iload_n 2, 1) := by decide +kernel
theorem dX0_claimAll_50 : decode cX0_claimAll 50 = .ok (.invokestatic 132, 3) := by decide +kernel
theorem dX0_claimAll_53 : decode cX0_claimAll 53 = .ok (.aload_n 0, 1) := by decide +kernel
theorem dX0_claimAll_54 : decode cX0_claimAll 54 = .ok (.getfield 9, 3) := by decide +kernel
theorem dX0_claimAll_57 : decode cX0_claimAll 57 = .ok (.iload 4, 2) := by decide +kernel
theorem dX0_claimAll_59 : decode cX0_claimAll 59 = .ok (.aload_n 1, 1) := by decide +kernel
theorem dX0_claimAll_60 : decode cX0_claimAll 60 = .ok (.getfield 59, 3) := by decide +kernel
theorem dX0_claimAll_63 : decode cX0_claimAll 63 = .ok (.iload 5, 2) := by decide +kernel
theorem dX0_claimAll_65 : decode cX0_claimAll 65 = .ok (.aaload, 1) := by decide +kernel
theorem dX0_claimAll_66 : decode cX0_claimAll 66 = .ok (.getfield 63, 3) := by decide +kernel
theorem dX0_claimAll_69 : decode cX0_claimAll 69 = .ok (.iastore, 1) := by decide +kernel
theorem dX0_claimAll_70 : decode cX0_claimAll 70 = .ok (.aload_n 0, 1) := by decide +kernel
theorem dX0_claimAll_71 : decode cX0_claimAll 71 = .ok (.getfield 15, 3) := by decide +kernel
theorem dX0_claimAll_74 : decode cX0_claimAll 74 = .ok (.iload 5, 2) := by decide +kernel
theorem dX0_claimAll_76 : decode cX0_claimAll 76 = .ok (.iload_n 2, 1) := by decide +kernel
theorem dX0_claimAll_77 : decode cX0_claimAll 77 = .ok (.iastore, 1) := by decide +kernel
theorem dX0_claimAll_78 : decode cX0_claimAll 78 = .ok (.aload_n 0, 1) := by decide +kernel
theorem dX0_claimAll_79 : decode cX0_claimAll 79 = .ok (.dup, 1) := by decide +kernel
theorem dX0_claimAll_80 : decode cX0_claimAll 80 = .ok (.getfield 125, 3) := by decide +kernel
theorem dX0_claimAll_83 : decode cX0_claimAll 83 = .ok (.iconst 1, 1) := by decide +kernel
theorem dX0_claimAll_84 : decode cX0_claimAll 84 = .ok (.iadd, 1) := by decide +kernel
theorem dX0_claimAll_85 : decode cX0_claimAll 85 = .ok (.putfield 125, 3) := by decide +kernel
theorem dX0_claimAll_88 : decode cX0_claimAll 88 = .ok (.iinc 4 1, 3) := by decide +kernel
theorem dX0_claimAll_91 : decode cX0_claimAll 91 = .ok (.goto (-65), 3) := by decide +kernel
theorem dX0_claimAll_94 : decode cX0_claimAll 94 = .ok (.return_, 1) := by decide +kernel
theorem dX0_pickAt_0 : decode cX0_pickAt 0 = .ok (.iload_n 1, 1) := by decide +kernel
theorem dX0_pickAt_1 : decode cX0_pickAt 1 = .ok (.ifCond .lt 11, 3) := by decide +kernel
theorem dX0_pickAt_4 : decode cX0_pickAt 4 = .ok (.iload_n 1, 1) := by decide +kernel
theorem dX0_pickAt_5 : decode cX0_pickAt 5 = .ok (.aload_n 0, 1) := by decide +kernel
theorem dX0_pickAt_6 : decode cX0_pickAt 6 = .ok (.getfield 125, 3) := by decide +kernel
theorem dX0_pickAt_9 : decode cX0_pickAt 9 = .ok (.if_icmp .lt 7, 3) := by decide +kernel
theorem dX0_pickAt_12 : decode cX0_pickAt 12 = .ok (.iconst (-1), 1) := by decide +kernel
theorem dX0_pickAt_13 : decode cX0_pickAt 13 = .ok (.goto 9, 3) := by decide +kernel
theorem dX0_pickAt_16 : decode cX0_pickAt 16 = .ok (.aload_n 0, 1) := by decide +kernel
theorem dX0_pickAt_17 : decode cX0_pickAt 17 = .ok (.getfield 9, 3) := by decide +kernel
theorem dX0_pickAt_20 : decode cX0_pickAt 20 = .ok (.iload_n 1, 1) := by decide +kernel
theorem dX0_pickAt_21 : decode cX0_pickAt 21 = .ok (.iaload, 1) := by decide +kernel
theorem dX0_pickAt_22 : decode cX0_pickAt 22 = .ok (.ireturn, 1) := by decide +kernel
theorem dX0_hasPicked_0 : decode cX0_hasPicked 0 = .ok (.iconst 0, 1) := by decide +kernel
theorem dX0_hasPicked_1 : decode cX0_hasPicked 1 = .ok (.istore_n 2, 1) := by decide +kernel
theorem dX0_hasPicked_2 : decode cX0_hasPicked 2 = .ok (.iload_n 2, 1) := by decide +kernel
theorem dX0_hasPicked_3 : decode cX0_hasPicked 3 = .ok (.aload_n 0, 1) := by decide +kernel
theorem dX0_hasPicked_4 : decode cX0_hasPicked 4 = .ok (.getfield 125, 3) := by decide +kernel
theorem dX0_hasPicked_7 : decode cX0_hasPicked 7 = .ok (.if_icmp .ge 21, 3) := by decide +kernel
theorem dX0_hasPicked_10 : decode cX0_hasPicked 10 = .ok (.aload_n 0, 1) := by decide +kernel
theorem dX0_hasPicked_11 : decode cX0_hasPicked 11 = .ok (.getfield 9, 3) := by decide +kernel
theorem dX0_hasPicked_14 : decode cX0_hasPicked 14 = .ok (.iload_n 2, 1) := by decide +kernel
theorem dX0_hasPicked_15 : decode cX0_hasPicked 15 = .ok (.iaload, 1) := by decide +kernel
theorem dX0_hasPicked_16 : decode cX0_hasPicked 16 = .ok (.iload_n 1, 1) := by decide +kernel
theorem dX0_hasPicked_17 : decode cX0_hasPicked 17 = .ok (.if_icmp .ne 5, 3) := by decide +kernel
theorem dX0_hasPicked_20 : decode cX0_hasPicked 20 = .ok (.iconst 1, 1) := by decide +kernel
theorem dX0_hasPicked_21 : decode cX0_hasPicked 21 = .ok (.ireturn, 1) := by decide +kernel
theorem dX0_hasPicked_22 : decode cX0_hasPicked 22 = .ok (.iinc 2 1, 3) := by decide +kernel
theorem dX0_hasPicked_25 : decode cX0_hasPicked 25 = .ok (.goto (-23), 3) := by decide +kernel
theorem dX0_hasPicked_28 : decode cX0_hasPicked 28 = .ok (.iconst 0, 1) := by decide +kernel
theorem dX0_hasPicked_29 : decode cX0_hasPicked 29 = .ok (.ireturn, 1) := by decide +kernel
theorem dX0_startRace_0 : decode cX0_startRace 0 = .ok (.iconst 0, 1) := by decide +kernel
theorem dX0_startRace_1 : decode cX0_startRace 1 = .ok (.istore_n 1, 1) := by decide +kernel
theorem dX0_startRace_2 : decode cX0_startRace 2 = .ok (.iload_n 1, 1) := by decide +kernel
theorem dX0_startRace_3 : decode cX0_startRace 3 = .ok (.aload_n 0, 1) := by decide +kernel
theorem dX0_startRace_4 : decode cX0_startRace 4 = .ok (.getfield 15, 3) := by decide +kernel
theorem dX0_startRace_7 : decode cX0_startRace 7 = .ok (.arraylength, 1) := by decide +kernel
theorem dX0_startRace_8 : decode cX0_startRace 8 = .ok (.if_icmp .ge 16, 3) := by decide +kernel
theorem dX0_startRace_11 : decode cX0_startRace 11 = .ok (.aload_n 0, 1) := by decide +kernel
theorem dX0_startRace_12 : decode cX0_startRace 12 = .ok (.getfield 15, 3) := by decide +kernel
theorem dX0_startRace_15 : decode cX0_startRace 15 = .ok (.iload_n 1, 1) := by decide +kernel
theorem dX0_startRace_16 : decode cX0_startRace 16 = .ok (.iconst (-1), 1) := by decide +kernel
theorem dX0_startRace_17 : decode cX0_startRace 17 = .ok (.iastore, 1) := by decide +kernel
theorem dX0_startRace_18 : decode cX0_startRace 18 = .ok (.iinc 1 1, 3) := by decide +kernel
theorem dX0_startRace_21 : decode cX0_startRace 21 = .ok (.goto (-19), 3) := by decide +kernel
theorem dX0_startRace_24 : decode cX0_startRace 24 = .ok (.return_, 1) := by decide +kernel
theorem dX0_turnRace_0 : decode cX0_turnRace 0 = .ok (.aload_n 0, 1) := by decide +kernel
theorem dX0_turnRace_1 : decode cX0_turnRace 1 = .ok (.getfield 15, 3) := by decide +kernel
theorem dX0_turnRace_4 : decode cX0_turnRace 4 = .ok (.iconst 0, 1) := by decide +kernel
theorem dX0_turnRace_5 : decode cX0_turnRace 5 = .ok (.aload_n 0, 1) := by decide +kernel
theorem dX0_turnRace_6 : decode cX0_turnRace 6 = .ok (.getfield 18, 3) := by decide +kernel
theorem dX0_turnRace_9 : decode cX0_turnRace 9 = .ok (.iconst 0, 1) := by decide +kernel
theorem dX0_turnRace_10 : decode cX0_turnRace 10 = .ok (.aload_n 0, 1) := by decide +kernel
theorem dX0_turnRace_11 : decode cX0_turnRace 11 = .ok (.getfield 15, 3) := by decide +kernel
theorem dX0_turnRace_14 : decode cX0_turnRace 14 = .ok (.arraylength, 1) := by decide +kernel
theorem dX0_turnRace_15 : decode cX0_turnRace 15 = .ok (.invokestatic 136, 3) := by decide +kernel
theorem dX0_turnRace_18 : decode cX0_turnRace 18 = .ok (.aload_n 0, 1) := by decide +kernel
theorem dX0_turnRace_19 : decode cX0_turnRace 19 = .ok (.invokevirtual 142, 3) := by decide +kernel
theorem dX0_turnRace_22 : decode cX0_turnRace 22 = .ok (.return_, 1) := by decide +kernel
theorem dX0_unlikeTakers_0 : decode cX0_unlikeTakers 0 = .ok (.iconst 0, 1) := by decide +kernel
theorem dX0_unlikeTakers_1 : decode cX0_unlikeTakers 1 = .ok (.istore_n 1, 1) := by decide +kernel
theorem dX0_unlikeTakers_2 : decode cX0_unlikeTakers 2 = .ok (.iconst 0, 1) := by decide +kernel
theorem dX0_unlikeTakers_3 : decode cX0_unlikeTakers 3 = .ok (.istore_n 2, 1) := by decide +kernel
theorem dX0_unlikeTakers_4 : decode cX0_unlikeTakers 4 = .ok (.iload_n 2, 1) := by decide +kernel
theorem dX0_unlikeTakers_5 : decode cX0_unlikeTakers 5 = .ok (.aload_n 0, 1) := by decide +kernel
theorem dX0_unlikeTakers_6 : decode cX0_unlikeTakers 6 = .ok (.getfield 15, 3) := by decide +kernel
theorem dX0_unlikeTakers_9 : decode cX0_unlikeTakers 9 = .ok (.arraylength, 1) := by decide +kernel
theorem dX0_unlikeTakers_10 : decode cX0_unlikeTakers 10 = .ok (.if_icmp .ge 32, 3) := by decide +kernel
theorem dX0_unlikeTakers_13 : decode cX0_unlikeTakers 13 = .ok (.iload_n 1, 1) := by decide +kernel
theorem dX0_unlikeTakers_14 : decode cX0_unlikeTakers 14 = .ok (.aload_n 0, 1) := by decide +kernel
theorem dX0_unlikeTakers_15 : decode cX0_unlikeTakers 15 = .ok (.getfield 15, 3) := by decide +kernel
theorem dX0_unlikeTakers_18 : decode cX0_unlikeTakers 18 = .ok (.iload_n 2, 1) := by decide +kernel
theorem dX0_unlikeTakers_19 : decode cX0_unlikeTakers 19 = .ok (.iaload, 1) := by decide +kernel
theorem dX0_unlikeTakers_20 : decode cX0_unlikeTakers 20 = .ok (.aload_n 0, 1) := by decide +kernel
theorem dX0_unlikeTakers_21 : decode cX0_unlikeTakers 21 = .ok (.getfield 18, 3) := by decide +kernel
theorem dX0_unlikeTakers_24 : decode cX0_unlikeTakers 24 = .ok (.iload_n 2, 1) := by decide +kernel
theorem dX0_unlikeTakers_25 : decode cX0_unlikeTakers 25 = .ok (.iaload, 1) := by decide +kernel
theorem dX0_unlikeTakers_26 : decode cX0_unlikeTakers 26 = .ok (.if_icmp .eq 7, 3) := by decide +kernel
theorem dX0_unlikeTakers_29 : decode cX0_unlikeTakers 29 = .ok (.iconst 1, 1) := by decide +kernel
theorem dX0_unlikeTakers_30 : decode cX0_unlikeTakers 30 = .ok (.goto 4, 3) := by decide +kernel
theorem dX0_unlikeTakers_33 : decode cX0_unlikeTakers 33 = .ok (.iconst 0, 1) := by decide +kernel
theorem dX0_unlikeTakers_34 : decode cX0_unlikeTakers 34 = .ok (.iadd, 1) := by decide +kernel
theorem dX0_unlikeTakers_35 : decode cX0_unlikeTakers 35 = .ok (.istore_n 1, 1) := by decide +kernel
theorem dX0_unlikeTakers_36 : decode cX0_unlikeTakers 36 = .ok (.iinc 2 1, 3) := by decide +kernel
theorem dX0_unlikeTakers_39 : decode cX0_unlikeTakers 39 = .ok (.goto (-35), 3) := by decide +kernel
theorem dX0_unlikeTakers_42 : decode cX0_unlikeTakers 42 = .ok (.iload_n 1, 1) := by decide +kernel
theorem dX0_unlikeTakers_43 : decode cX0_unlikeTakers 43 = .ok (.ireturn, 1) := by decide +kernel
theorem dX0_claimedAhead_0 : decode cX0_claimedAhead 0 = .ok (.iconst 0, 1) := by decide +kernel
theorem dX0_claimedAhead_1 : decode cX0_claimedAhead 1 = .ok (.istore_n 3, 1) := by decide +kernel
theorem dX0_claimedAhead_2 : decode cX0_claimedAhead 2 = .ok (.iload_n 3, 1) := by decide +kernel
theorem dX0_claimedAhead_3 : decode cX0_claimedAhead 3 = .ok (.bipush 24, 2) := by decide +kernel
theorem dX0_claimedAhead_5 : decode cX0_claimedAhead 5 = .ok (.if_icmp .ge 60, 3) := by decide +kernel
theorem dX0_claimedAhead_8 : decode cX0_claimedAhead 8 = .ok (.aload_n 0, 1) := by decide +kernel
theorem dX0_claimedAhead_9 : decode cX0_claimedAhead 9 = .ok (.iload_n 1, 1) := by decide +kernel
theorem dX0_claimedAhead_10 : decode cX0_claimedAhead 10 = .ok (.invokestatic 128, 3) := by decide +kernel
theorem dX0_claimedAhead_13 : decode cX0_claimedAhead 13 = .ok (.istore 4, 2) := by decide +kernel
theorem dX0_claimedAhead_15 : decode cX0_claimedAhead 15 = .ok (.iload 4, 2) := by decide +kernel
theorem dX0_claimedAhead_17 : decode cX0_claimedAhead 17 = .ok (.iconst (-1), 1) := by decide +kernel
theorem dX0_claimedAhead_18 : decode cX0_claimedAhead 18 = .ok (.if_icmp .ne 5, 3) := by decide +kernel
theorem dX0_claimedAhead_21 : decode cX0_claimedAhead 21 = .ok (.iconst (-1), 1) := by decide +kernel
theorem dX0_claimedAhead_22 : decode cX0_claimedAhead 22 = .ok (.ireturn, 1) := by decide +kernel
theorem dX0_claimedAhead_23 : decode cX0_claimedAhead 23 = .ok (.aload_n 0, 1) := by decide +kernel
theorem dX0_claimedAhead_24 : decode cX0_claimedAhead 24 = .ok (.getfield 59, 3) := by decide +kernel
theorem dX0_claimedAhead_27 : decode cX0_claimedAhead 27 = .ok (.iload 4, 2) := by decide +kernel
theorem dX0_claimedAhead_29 : decode cX0_claimedAhead 29 = .ok (.aaload, 1) := by decide +kernel
theorem dX0_claimedAhead_30 : decode cX0_claimedAhead 30 = .ok (.astore 5, 2) := by decide +kernel
theorem dX0_claimedAhead_32 : decode cX0_claimedAhead 32 = .ok (.aload 5, 2) := by decide +kernel
theorem dX0_claimedAhead_34 : decode cX0_claimedAhead 34 = .ok (.getfield 63, 3) := by decide +kernel
theorem dX0_claimedAhead_37 : decode cX0_claimedAhead 37 = .ok (.iload_n 2, 1) := by decide +kernel
theorem dX0_claimedAhead_38 : decode cX0_claimedAhead 38 = .ok (.if_icmp .ne 5, 3) := by decide +kernel
theorem dX0_claimedAhead_41 : decode cX0_claimedAhead 41 = .ok (.iload_n 3, 1) := by decide +kernel
theorem dX0_claimedAhead_42 : decode cX0_claimedAhead 42 = .ok (.ireturn, 1) := by decide +kernel
theorem dX0_claimedAhead_43 : decode cX0_claimedAhead 43 = .ok (.aload_n 0, 1) := by decide +kernel
theorem dX0_claimedAhead_44 : decode cX0_claimedAhead 44 = .ok (.iload 4, 2) := by decide +kernel
theorem dX0_claimedAhead_46 : decode cX0_claimedAhead 46 = .ok (.iload_n 1, 1) := by decide +kernel
theorem dX0_claimedAhead_47 : decode cX0_claimedAhead 47 = .ok (.invokestatic 132, 3) := by decide +kernel
theorem dX0_claimedAhead_50 : decode cX0_claimedAhead 50 = .ok (.aload 5, 2) := by decide +kernel
theorem dX0_claimedAhead_52 : decode cX0_claimedAhead 52 = .ok (.getfield 145, 3) := by decide +kernel
theorem dX0_claimedAhead_55 : decode cX0_claimedAhead 55 = .ok (.iconst 2, 1) := by decide +kernel
theorem dX0_claimedAhead_56 : decode cX0_claimedAhead 56 = .ok (.putfield 31, 3) := by decide +kernel
theorem dX0_claimedAhead_59 : decode cX0_claimedAhead 59 = .ok (.iinc 3 1, 3) := by decide +kernel
theorem dX0_claimedAhead_62 : decode cX0_claimedAhead 62 = .ok (.goto (-60), 3) := by decide +kernel
theorem dX0_claimedAhead_65 : decode cX0_claimedAhead 65 = .ok (.iconst (-1), 1) := by decide +kernel
theorem dX0_claimedAhead_66 : decode cX0_claimedAhead 66 = .ok (.ireturn, 1) := by decide +kernel
theorem dX1_init_0 : decode cX1_init 0 = .ok (.aload_n 0, 1) := by decide +kernel
theorem dX1_init_1 : decode cX1_init 1 = .ok (.invokespecial 3, 3) := by decide +kernel
theorem dX1_init_4 : decode cX1_init 4 = .ok (.aload_n 0, 1) := by decide +kernel
theorem dX1_init_5 : decode cX1_init 5 = .ok (.new 9, 3) := by decide +kernel
theorem dX1_init_8 : decode cX1_init 8 = .ok (.dup, 1) := by decide +kernel
theorem dX1_init_9 : decode cX1_init 9 = .ok (.invokespecial 11, 3) := by decide +kernel
theorem dX1_init_12 : decode cX1_init 12 = .ok (.putfield 12, 3) := by decide +kernel
theorem dX1_init_15 : decode cX1_init 15 = .ok (.aload_n 0, 1) := by decide +kernel
theorem dX1_init_16 : decode cX1_init 16 = .ok (.new 9, 3) := by decide +kernel
theorem dX1_init_19 : decode cX1_init 19 = .ok (.dup, 1) := by decide +kernel
theorem dX1_init_20 : decode cX1_init 20 = .ok (.invokespecial 11, 3) := by decide +kernel
theorem dX1_init_23 : decode cX1_init 23 = .ok (.putfield 18, 3) := by decide +kernel
theorem dX1_init_26 : decode cX1_init 26 = .ok (.aload_n 0, 1) := by decide +kernel
theorem dX1_init_27 : decode cX1_init 27 = .ok (.iconst 4, 1) := by decide +kernel
theorem dX1_init_28 : decode cX1_init 28 = .ok (.anewarray 9, 3) := by decide +kernel
theorem dX1_init_31 : decode cX1_init 31 = .ok (.putfield 21, 3) := by decide +kernel
theorem dX1_init_34 : decode cX1_init 34 = .ok (.aload_n 0, 1) := by decide +kernel
theorem dX1_init_35 : decode cX1_init 35 = .ok (.iconst (-1), 1) := by decide +kernel
theorem dX1_init_36 : decode cX1_init 36 = .ok (.putfield 25, 3) := by decide +kernel
theorem dX1_init_39 : decode cX1_init 39 = .ok (.iconst 0, 1) := by decide +kernel
theorem dX1_init_40 : decode cX1_init 40 = .ok (.istore_n 1, 1) := by decide +kernel
theorem dX1_init_41 : decode cX1_init 41 = .ok (.iload_n 1, 1) := by decide +kernel
theorem dX1_init_42 : decode cX1_init 42 = .ok (.aload_n 0, 1) := by decide +kernel
theorem dX1_init_43 : decode cX1_init 43 = .ok (.getfield 21, 3) := by decide +kernel
theorem dX1_init_46 : decode cX1_init 46 = .ok (.arraylength, 1) := by decide +kernel
theorem dX1_init_47 : decode cX1_init 47 = .ok (.if_icmp .ge 22, 3) := by decide +kernel
theorem dX1_init_50 : decode cX1_init 50 = .ok (.aload_n 0, 1) := by decide +kernel
theorem dX1_init_51 : decode cX1_init 51 = .ok (.getfield 21, 3) := by decide +kernel
theorem dX1_init_54 : decode cX1_init 54 = .ok (.iload_n 1, 1) := by decide +kernel
theorem dX1_init_55 : decode cX1_init 55 = .ok (.new 9, 3) := by decide +kernel
theorem dX1_init_58 : decode cX1_init 58 = .ok (.dup, 1) := by decide +kernel
theorem dX1_init_59 : decode cX1_init 59 = .ok (.invokespecial 11, 3) := by decide +kernel
theorem dX1_init_62 : decode cX1_init 62 = .ok (.aastore, 1) := by decide +kernel
theorem dX1_init_63 : decode cX1_init 63 = .ok (.iinc 1 1, 3) := by decide +kernel
theorem dX1_init_66 : decode cX1_init 66 = .ok (.goto (-25), 3) := by decide +kernel
theorem dX1_init_69 : decode cX1_init 69 = .ok (.return_, 1) := by decide +kernel
theorem dX1_copyFrom_0 : decode cX1_copyFrom 0 = .ok (.aload_n 0, 1) := by decide +kernel
theorem dX1_copyFrom_1 : decode cX1_copyFrom 1 = .ok (.aload_n 1, 1) := by decide +kernel
theorem dX1_copyFrom_2 : decode cX1_copyFrom 2 = .ok (.getfield 29, 3) := by decide +kernel
theorem dX1_copyFrom_5 : decode cX1_copyFrom 5 = .ok (.putfield 29, 3) := by decide +kernel
theorem dX1_copyFrom_8 : decode cX1_copyFrom 8 = .ok (.aload_n 0, 1) := by decide +kernel
theorem dX1_copyFrom_9 : decode cX1_copyFrom 9 = .ok (.aload_n 1, 1) := by decide +kernel
theorem dX1_copyFrom_10 : decode cX1_copyFrom 10 = .ok (.getfield 32, 3) := by decide +kernel
theorem dX1_copyFrom_13 : decode cX1_copyFrom 13 = .ok (.putfield 32, 3) := by decide +kernel
theorem dX1_copyFrom_16 : decode cX1_copyFrom 16 = .ok (.aload_n 0, 1) := by decide +kernel
theorem dX1_copyFrom_17 : decode cX1_copyFrom 17 = .ok (.aload_n 1, 1) := by decide +kernel
theorem dX1_copyFrom_18 : decode cX1_copyFrom 18 = .ok (.getfield 35, 3) := by decide +kernel
theorem dX1_copyFrom_21 : decode cX1_copyFrom 21 = .ok (.putfield 35, 3) := by decide +kernel
theorem dX1_copyFrom_24 : decode cX1_copyFrom 24 = .ok (.aload_n 0, 1) := by decide +kernel
theorem dX1_copyFrom_25 : decode cX1_copyFrom 25 = .ok (.aload_n 1, 1) := by decide +kernel
theorem dX1_copyFrom_26 : decode cX1_copyFrom 26 = .ok (.getfield 38, 3) := by decide +kernel
theorem dX1_copyFrom_29 : decode cX1_copyFrom 29 = .ok (.putfield 38, 3) := by decide +kernel
theorem dX1_copyFrom_32 : decode cX1_copyFrom 32 = .ok (.aload_n 0, 1) := by decide +kernel
theorem dX1_copyFrom_33 : decode cX1_copyFrom 33 = .ok (.aload_n 1, 1) := by decide +kernel
theorem dX1_copyFrom_34 : decode cX1_copyFrom 34 = .ok (.getfield 41, 3) := by decide +kernel
theorem dX1_copyFrom_37 : decode cX1_copyFrom 37 = .ok (.putfield 41, 3) := by decide +kernel
theorem dX1_copyFrom_40 : decode cX1_copyFrom 40 = .ok (.aload_n 0, 1) := by decide +kernel
theorem dX1_copyFrom_41 : decode cX1_copyFrom 41 = .ok (.aload_n 1, 1) := by decide +kernel
theorem dX1_copyFrom_42 : decode cX1_copyFrom 42 = .ok (.getfield 44, 3) := by decide +kernel
theorem dX1_copyFrom_45 : decode cX1_copyFrom 45 = .ok (.putfield 44, 3) := by decide +kernel
theorem dX1_copyFrom_48 : decode cX1_copyFrom 48 = .ok (.aload_n 0, 1) := by decide +kernel
theorem dX1_copyFrom_49 : decode cX1_copyFrom 49 = .ok (.aload_n 1, 1) := by decide +kernel
theorem dX1_copyFrom_50 : decode cX1_copyFrom 50 = .ok (.getfield 47, 3) := by decide +kernel
theorem dX1_copyFrom_53 : decode cX1_copyFrom 53 = .ok (.putfield 47, 3) := by decide +kernel
theorem dX1_copyFrom_56 : decode cX1_copyFrom 56 = .ok (.aload_n 0, 1) := by decide +kernel
theorem dX1_copyFrom_57 : decode cX1_copyFrom 57 = .ok (.aload_n 1, 1) := by decide +kernel
theorem dX1_copyFrom_58 : decode cX1_copyFrom 58 = .ok (.getfield 50, 3) := by decide +kernel
theorem dX1_copyFrom_61 : decode cX1_copyFrom 61 = .ok (.putfield 50, 3) := by decide +kernel
theorem dX1_copyFrom_64 : decode cX1_copyFrom 64 = .ok (.aload_n 0, 1) := by decide +kernel
theorem dX1_copyFrom_65 : decode cX1_copyFrom 65 = .ok (.aload_n 1, 1) := by decide +kernel
theorem dX1_copyFrom_66 : decode cX1_copyFrom 66 = .ok (.getfield 25, 3) := by decide +kernel
theorem dX1_copyFrom_69 : decode cX1_copyFrom 69 = .ok (.putfield 25, 3) := by decide +kernel
theorem dX1_copyFrom_72 : decode cX1_copyFrom 72 = .ok (.aload_n 0, 1) := by decide +kernel
theorem dX1_copyFrom_73 : decode cX1_copyFrom 73 = .ok (.aload_n 1, 1) := by decide +kernel
theorem dX1_copyFrom_74 : decode cX1_copyFrom 74 = .ok (.getfield 54, 3) := by decide +kernel
theorem dX1_copyFrom_77 : decode cX1_copyFrom 77 = .ok (.putfield 54, 3) := by decide +kernel
theorem dX1_copyFrom_80 : decode cX1_copyFrom 80 = .ok (.aload_n 0, 1) := by decide +kernel
theorem dX1_copyFrom_81 : decode cX1_copyFrom 81 = .ok (.getfield 12, 3) := by decide +kernel
theorem dX1_copyFrom_84 : decode cX1_copyFrom 84 = .ok (.aload_n 1, 1) := by decide +kernel
theorem dX1_copyFrom_85 : decode cX1_copyFrom 85 = .ok (.getfield 12, 3) := by decide +kernel
theorem dX1_copyFrom_88 : decode cX1_copyFrom 88 = .ok (.invokevirtual 57, 3) := by decide +kernel
theorem dX1_copyFrom_91 : decode cX1_copyFrom 91 = .ok (.aload_n 0, 1) := by decide +kernel
theorem dX1_copyFrom_92 : decode cX1_copyFrom 92 = .ok (.getfield 25, 3) := by decide +kernel
theorem dX1_copyFrom_95 : decode cX1_copyFrom 95 = .ok (.iconst (-1), 1) := by decide +kernel
theorem dX1_copyFrom_96 : decode cX1_copyFrom 96 = .ok (.if_icmp .ne 4, 3) := by decide +kernel
theorem dX1_copyFrom_99 : decode cX1_copyFrom 99 = .ok (.return_, 1) := by decide +kernel
theorem dX1_copyFrom_100 : decode cX1_copyFrom 100 = .ok (.aload_n 0, 1) := by decide +kernel
theorem dX1_copyFrom_101 : decode cX1_copyFrom 101 = .ok (.getfield 18, 3) := by decide +kernel
theorem dX1_copyFrom_104 : decode cX1_copyFrom 104 = .ok (.aload_n 1, 1) := by decide +kernel
theorem dX1_copyFrom_105 : decode cX1_copyFrom 105 = .ok (.getfield 18, 3) := by decide +kernel
theorem dX1_copyFrom_108 : decode cX1_copyFrom 108 = .ok (.invokevirtual 57, 3) := by decide +kernel
theorem dX1_copyFrom_111 : decode cX1_copyFrom 111 = .ok (.iconst 0, 1) := by decide +kernel
theorem dX1_copyFrom_112 : decode cX1_copyFrom 112 = .ok (.istore_n 2, 1) := by decide +kernel
theorem dX1_copyFrom_113 : decode cX1_copyFrom 113 = .ok (.iload_n 2, 1) := by decide +kernel
theorem dX1_copyFrom_114 : decode cX1_copyFrom 114 = .ok (.aload_n 0, 1) := by decide +kernel
theorem dX1_copyFrom_115 : decode cX1_copyFrom 115 = .ok (.getfield 21, 3) := by decide +kernel
theorem dX1_copyFrom_118 : decode cX1_copyFrom 118 = .ok (.arraylength, 1) := by decide +kernel
theorem dX1_copyFrom_119 : decode cX1_copyFrom 119 = .ok (.if_icmp .ge 32, 3) := by decide +kernel
theorem dX1_copyFrom_122 : decode cX1_copyFrom 122 = .ok (.aload_n 1, 1) := by decide +kernel
theorem dX1_copyFrom_123 : decode cX1_copyFrom 123 = .ok (.iload_n 2, 1) := by decide +kernel
theorem dX1_copyFrom_124 : decode cX1_copyFrom 124 = .ok (.invokevirtual 61, 3) := by decide +kernel
theorem dX1_copyFrom_127 : decode cX1_copyFrom 127 = .ok (.ifCond .eq 18, 3) := by decide +kernel
theorem dX1_copyFrom_130 : decode cX1_copyFrom 130 = .ok (.aload_n 0, 1) := by decide +kernel
theorem dX1_copyFrom_131 : decode cX1_copyFrom 131 = .ok (.getfield 21, 3) := by decide +kernel
theorem dX1_copyFrom_134 : decode cX1_copyFrom 134 = .ok (.iload_n 2, 1) := by decide +kernel
theorem dX1_copyFrom_135 : decode cX1_copyFrom 135 = .ok (.aaload, 1) := by decide +kernel
theorem dX1_copyFrom_136 : decode cX1_copyFrom 136 = .ok (.aload_n 1, 1) := by decide +kernel
theorem dX1_copyFrom_137 : decode cX1_copyFrom 137 = .ok (.getfield 21, 3) := by decide +kernel
theorem dX1_copyFrom_140 : decode cX1_copyFrom 140 = .ok (.iload_n 2, 1) := by decide +kernel
theorem dX1_copyFrom_141 : decode cX1_copyFrom 141 = .ok (.aaload, 1) := by decide +kernel
theorem dX1_copyFrom_142 : decode cX1_copyFrom 142 = .ok (.invokevirtual 57, 3) := by decide +kernel
theorem dX1_copyFrom_145 : decode cX1_copyFrom 145 = .ok (.iinc 2 1, 3) := by decide +kernel
theorem dX1_copyFrom_148 : decode cX1_copyFrom 148 = .ok (.goto (-35), 3) := by decide +kernel
theorem dX1_copyFrom_151 : decode cX1_copyFrom 151 = .ok (.return_, 1) := by decide +kernel
theorem dX1_isLockedBy_0 : decode cX1_isLockedBy 0 = .ok (.aload_n 0, 1) := by decide +kernel
theorem dX1_isLockedBy_1 : decode cX1_isLockedBy 1 = .ok (.getfield 25, 3) := by decide +kernel
theorem dX1_isLockedBy_4 : decode cX1_isLockedBy 4 = .ok (.iconst (-1), 1) := by decide +kernel
theorem dX1_isLockedBy_5 : decode cX1_isLockedBy 5 = .ok (.if_icmp .eq 15, 3) := by decide +kernel
theorem dX1_isLockedBy_8 : decode cX1_isLockedBy 8 = .ok (.aload_n 0, 1) := by decide +kernel
theorem dX1_isLockedBy_9 : decode cX1_isLockedBy 9 = .ok (.getfield 25, 3) := by decide +kernel
theorem dX1_isLockedBy_12 : decode cX1_isLockedBy 12 = .ok (.iload_n 1, 1) := by decide +kernel
theorem dX1_isLockedBy_13 : decode cX1_isLockedBy 13 = .ok (.if_icmp .ne 7, 3) := by decide +kernel
theorem dX1_isLockedBy_16 : decode cX1_isLockedBy 16 = .ok (.iconst 1, 1) := by decide +kernel
theorem dX1_isLockedBy_17 : decode cX1_isLockedBy 17 = .ok (.goto 4, 3) := by decide +kernel
theorem dX1_isLockedBy_20 : decode cX1_isLockedBy 20 = .ok (.iconst 0, 1) := by decide +kernel
theorem dX1_isLockedBy_21 : decode cX1_isLockedBy 21 = .ok (.ireturn, 1) := by decide +kernel
theorem dX1_isLockedByOther_0 : decode cX1_isLockedByOther 0 = .ok (.aload_n 0, 1) := by decide +kernel
theorem dX1_isLockedByOther_1 : decode cX1_isLockedByOther 1 = .ok (.getfield 25, 3) := by decide +kernel
theorem dX1_isLockedByOther_4 : decode cX1_isLockedByOther 4 = .ok (.iconst (-1), 1) := by decide +kernel
theorem dX1_isLockedByOther_5 : decode cX1_isLockedByOther 5 = .ok (.if_icmp .eq 15, 3) := by decide +kernel
theorem dX1_isLockedByOther_8 : decode cX1_isLockedByOther 8 = .ok (.aload_n 0, 1) := by decide +kernel
theorem dX1_isLockedByOther_9 : decode cX1_isLockedByOther 9 = .ok (.getfield 25, 3) := by decide +kernel
theorem dX1_isLockedByOther_12 : decode cX1_isLockedByOther 12 = .ok (.iload_n 1, 1) := by decide +kernel
theorem dX1_isLockedByOther_13 : decode cX1_isLockedByOther 13 = .ok (.if_icmp .eq 7, 3) := by decide +kernel
theorem dX1_isLockedByOther_16 : decode cX1_isLockedByOther 16 = .ok (.iconst 1, 1) := by decide +kernel
theorem dX1_isLockedByOther_17 : decode cX1_isLockedByOther 17 = .ok (.goto 4, 3) := by decide +kernel
theorem dX1_isLockedByOther_20 : decode cX1_isLockedByOther 20 = .ok (.iconst 0, 1) := by decide +kernel
theorem dX1_isLockedByOther_21 : decode cX1_isLockedByOther 21 = .ok (.ireturn, 1) := by decide +kernel
theorem dX1_isSeenBy_0 : decode cX1_isSeenBy 0 = .ok (.aload_n 0, 1) := by decide +kernel
theorem dX1_isSeenBy_1 : decode cX1_isSeenBy 1 = .ok (.getfield 50, 3) := by decide +kernel
theorem dX1_isSeenBy_4 : decode cX1_isSeenBy 4 = .ok (.ifCond .ne 19, 3) := by decide +kernel
theorem dX1_isSeenBy_7 : decode cX1_isSeenBy 7 = .ok (.aload_n 0, 1) := by decide +kernel
theorem dX1_isSeenBy_8 : decode cX1_isSeenBy 8 = .ok (.getfield 25, 3) := by decide +kernel
theorem dX1_isSeenBy_11 : decode cX1_isSeenBy 11 = .ok (.iconst (-1), 1) := by decide +kernel
theorem dX1_isSeenBy_12 : decode cX1_isSeenBy 12 = .ok (.if_icmp .eq 15, 3) := by decide +kernel
theorem dX1_isSeenBy_15 : decode cX1_isSeenBy 15 = .ok (.aload_n 0, 1) := by decide +kernel
theorem dX1_isSeenBy_16 : decode cX1_isSeenBy 16 = .ok (.getfield 25, 3) := by decide +kernel
theorem dX1_isSeenBy_19 : decode cX1_isSeenBy 19 = .ok (.iload_n 1, 1) := by decide +kernel
theorem dX1_isSeenBy_20 : decode cX1_isSeenBy 20 = .ok (.if_icmp .ne 7, 3) := by decide +kernel
theorem dX1_isSeenBy_23 : decode cX1_isSeenBy 23 = .ok (.iconst 1, 1) := by decide +kernel
theorem dX1_isSeenBy_24 : decode cX1_isSeenBy 24 = .ok (.goto 4, 3) := by decide +kernel
theorem dX1_isSeenBy_27 : decode cX1_isSeenBy 27 = .ok (.iconst 0, 1) := by decide +kernel
theorem dX1_isSeenBy_28 : decode cX1_isSeenBy 28 = .ok (.ireturn, 1) := by decide +kernel
theorem dX1_seenBy_0 : decode cX1_seenBy 0 = .ok (.aload_n 0, 1) := by decide +kernel
theorem dX1_seenBy_1 : decode cX1_seenBy 1 = .ok (.getfield 25, 3) := by decide +kernel
theorem dX1_seenBy_4 : decode cX1_seenBy 4 = .ok (.iconst (-1), 1) := by decide +kernel
theorem dX1_seenBy_5 : decode cX1_seenBy 5 = .ok (.if_icmp .eq 18, 3) := by decide +kernel
theorem dX1_seenBy_8 : decode cX1_seenBy 8 = .ok (.aload_n 0, 1) := by decide +kernel
theorem dX1_seenBy_9 : decode cX1_seenBy 9 = .ok (.getfield 25, 3) := by decide +kernel
theorem dX1_seenBy_12 : decode cX1_seenBy 12 = .ok (.iload_n 1, 1) := by decide +kernel
theorem dX1_seenBy_13 : decode cX1_seenBy 13 = .ok (.if_icmp .ne 10, 3) := by decide +kernel
theorem dX1_seenBy_16 : decode cX1_seenBy 16 = .ok (.aload_n 0, 1) := by decide +kernel
theorem dX1_seenBy_17 : decode cX1_seenBy 17 = .ok (.getfield 18, 3) := by decide +kernel
theorem dX1_seenBy_20 : decode cX1_seenBy 20 = .ok (.goto 7, 3) := by decide +kernel
theorem dX1_seenBy_23 : decode cX1_seenBy 23 = .ok (.aload_n 0, 1) := by decide +kernel
theorem dX1_seenBy_24 : decode cX1_seenBy 24 = .ok (.getfield 12, 3) := by decide +kernel
theorem dX1_seenBy_27 : decode cX1_seenBy 27 = .ok (.areturn, 1) := by decide +kernel
theorem dX1_lockFor_0 : decode cX1_lockFor 0 = .ok (.aload_n 0, 1) := by decide +kernel
theorem dX1_lockFor_1 : decode cX1_lockFor 1 = .ok (.getfield 25, 3) := by decide +kernel
theorem dX1_lockFor_4 : decode cX1_lockFor 4 = .ok (.iconst (-1), 1) := by decide +kernel
theorem dX1_lockFor_5 : decode cX1_lockFor 5 = .ok (.if_icmp .ne 24, 3) := by decide +kernel
theorem dX1_lockFor_8 : decode cX1_lockFor 8 = .ok (.aload_n 0, 1) := by decide +kernel
theorem dX1_lockFor_9 : decode cX1_lockFor 9 = .ok (.getfield 18, 3) := by decide +kernel
theorem dX1_lockFor_12 : decode cX1_lockFor 12 = .ok (.aload_n 0, 1) := by decide +kernel
theorem dX1_lockFor_13 : decode cX1_lockFor 13 = .ok (.getfield 12, 3) := by decide +kernel
theorem dX1_lockFor_16 : decode cX1_lockFor 16 = .ok (.invokevirtual 57, 3) := by decide +kernel
theorem dX1_lockFor_19 : decode cX1_lockFor 19 = .ok (.aload_n 0, 1) := by decide +kernel
theorem dX1_lockFor_20 : decode cX1_lockFor 20 = .ok (.iconst 0, 1) := by decide +kernel
theorem dX1_lockFor_21 : decode cX1_lockFor 21 = .ok (.putfield 54, 3) := by decide +kernel
theorem dX1_lockFor_24 : decode cX1_lockFor 24 = .ok (.aload_n 0, 1) := by decide +kernel
theorem dX1_lockFor_25 : decode cX1_lockFor 25 = .ok (.iload_n 1, 1) := by decide +kernel
theorem dX1_lockFor_26 : decode cX1_lockFor 26 = .ok (.putfield 25, 3) := by decide +kernel
theorem dX1_lockFor_29 : decode cX1_lockFor 29 = .ok (.aload_n 0, 1) := by decide +kernel
theorem dX1_lockFor_30 : decode cX1_lockFor 30 = .ok (.getfield 18, 3) := by decide +kernel
theorem dX1_lockFor_33 : decode cX1_lockFor 33 = .ok (.areturn, 1) := by decide +kernel
theorem dX1_ownBy_0 : decode cX1_ownBy 0 = .ok (.aload_n 0, 1) := by decide +kernel
theorem dX1_ownBy_1 : decode cX1_ownBy 1 = .ok (.iload_n 1, 1) := by decide +kernel
theorem dX1_ownBy_2 : decode cX1_ownBy 2 = .ok (.invokevirtual 65, 3) := by decide +kernel
theorem dX1_ownBy_5 : decode cX1_ownBy 5 = .ok (.pop, 1) := by decide +kernel
theorem dX1_ownBy_6 : decode cX1_ownBy 6 = .ok (.aload_n 0, 1) := by decide +kernel
theorem dX1_ownBy_7 : decode cX1_ownBy 7 = .ok (.iconst 0, 1) := by decide +kernel
theorem dX1_ownBy_8 : decode cX1_ownBy 8 = .ok (.putfield 50, 3) := by decide +kernel
theorem dX1_ownBy_11 : decode cX1_ownBy 11 = .ok (.return_, 1) := by decide +kernel
theorem dX1_saveAt_0 : decode cX1_saveAt 0 = .ok (.iload_n 1, 1) := by decide +kernel
theorem dX1_saveAt_1 : decode cX1_saveAt 1 = .ok (.ifCond .lt 37, 3) := by decide +kernel
theorem dX1_saveAt_4 : decode cX1_saveAt 4 = .ok (.iload_n 1, 1) := by decide +kernel
theorem dX1_saveAt_5 : decode cX1_saveAt 5 = .ok (.aload_n 0, 1) := by decide +kernel
theorem dX1_saveAt_6 : decode cX1_saveAt 6 = .ok (.getfield 21, 3) := by decide +kernel
theorem dX1_saveAt_9 : decode cX1_saveAt 9 = .ok (.arraylength, 1) := by decide +kernel
theorem dX1_saveAt_10 : decode cX1_saveAt 10 = .ok (.if_icmp .ge 28, 3) := by decide +kernel
theorem dX1_saveAt_13 : decode cX1_saveAt 13 = .ok (.aload_n 0, 1) := by decide +kernel
theorem dX1_saveAt_14 : decode cX1_saveAt 14 = .ok (.getfield 21, 3) := by decide +kernel
theorem dX1_saveAt_17 : decode cX1_saveAt 17 = .ok (.iload_n 1, 1) := by decide +kernel
theorem dX1_saveAt_18 : decode cX1_saveAt 18 = .ok (.aaload, 1) := by decide +kernel
theorem dX1_saveAt_19 : decode cX1_saveAt 19 = .ok (.aload_n 0, 1) := by decide +kernel
theorem dX1_saveAt_20 : decode cX1_saveAt 20 = .ok (.getfield 18, 3) := by decide +kernel
theorem dX1_saveAt_23 : decode cX1_saveAt 23 = .ok (.invokevirtual 57, 3) := by decide +kernel
theorem dX1_saveAt_26 : decode cX1_saveAt 26 = .ok (.aload_n 0, 1) := by decide +kernel
theorem dX1_saveAt_27 : decode cX1_saveAt 27 = .ok (.dup, 1) := by decide +kernel
theorem dX1_saveAt_28 : decode cX1_saveAt 28 = .ok (.getfield 54, 3) := by decide +kernel
theorem dX1_saveAt_31 : decode cX1_saveAt 31 = .ok (.iconst 1, 1) := by decide +kernel
theorem dX1_saveAt_32 : decode cX1_saveAt 32 = .ok (.iload_n 1, 1) := by decide +kernel
theorem dX1_saveAt_33 : decode cX1_saveAt 33 = .ok (.ishl, 1) := by decide +kernel
theorem dX1_saveAt_34 : decode cX1_saveAt 34 = .ok (.ior, 1) := by decide +kernel
theorem dX1_saveAt_35 : decode cX1_saveAt 35 = .ok (.putfield 54, 3) := by decide +kernel
theorem dX1_saveAt_38 : decode cX1_saveAt 38 = .ok (.return_, 1) := by decide +kernel
theorem dX1_isSavedAt_0 : decode cX1_isSavedAt 0 = .ok (.iload_n 1, 1) := by decide +kernel
theorem dX1_isSavedAt_1 : decode cX1_isSavedAt 1 = .ok (.ifCond .lt 28, 3) := by decide +kernel
theorem dX1_isSavedAt_4 : decode cX1_isSavedAt 4 = .ok (.iload_n 1, 1) := by decide +kernel
theorem dX1_isSavedAt_5 : decode cX1_isSavedAt 5 = .ok (.aload_n 0, 1) := by decide +kernel
theorem dX1_isSavedAt_6 : decode cX1_isSavedAt 6 = .ok (.getfield 21, 3) := by decide +kernel
theorem dX1_isSavedAt_9 : decode cX1_isSavedAt 9 = .ok (.arraylength, 1) := by decide +kernel
theorem dX1_isSavedAt_10 : decode cX1_isSavedAt 10 = .ok (.if_icmp .ge 19, 3) := by decide +kernel
theorem dX1_isSavedAt_13 : decode cX1_isSavedAt 13 = .ok (.aload_n 0, 1) := by decide +kernel
theorem dX1_isSavedAt_14 : decode cX1_isSavedAt 14 = .ok (.getfield 54, 3) := by decide +kernel
theorem dX1_isSavedAt_17 : decode cX1_isSavedAt 17 = .ok (.iload_n 1, 1) := by decide +kernel
theorem dX1_isSavedAt_18 : decode cX1_isSavedAt 18 = .ok (.ishr, 1) := by decide +kernel
theorem dX1_isSavedAt_19 : decode cX1_isSavedAt 19 = .ok (.iconst 1, 1) := by decide +kernel
theorem dX1_isSavedAt_20 : decode cX1_isSavedAt 20 = .ok (.iand, 1) := by decide +kernel
theorem dX1_isSavedAt_21 : decode cX1_isSavedAt 21 = .ok (.iconst 1, 1) := by decide +kernel
theorem dX1_isSavedAt_22 : decode cX1_isSavedAt 22 = .ok (.if_icmp .ne 7, 3) := by decide +kernel
theorem dX1_isSavedAt_25 : decode cX1_isSavedAt 25 = .ok (.iconst 1, 1) := by decide +kernel
theorem dX1_isSavedAt_26 : decode cX1_isSavedAt 26 = .ok (.goto 4, 3) := by decide +kernel
theorem dX1_isSavedAt_29 : decode cX1_isSavedAt 29 = .ok (.iconst 0, 1) := by decide +kernel
theorem dX1_isSavedAt_30 : decode cX1_isSavedAt 30 = .ok (.ireturn, 1) := by decide +kernel
theorem dX1_returnTo_0 : decode cX1_returnTo 0 = .ok (.iload_n 1, 1) := by decide +kernel
theorem dX1_returnTo_1 : decode cX1_returnTo 1 = .ok (.ifCond .lt 25, 3) := by decide +kernel
theorem dX1_returnTo_4 : decode cX1_returnTo 4 = .ok (.iload_n 1, 1) := by decide +kernel
theorem dX1_returnTo_5 : decode cX1_returnTo 5 = .ok (.aload_n 0, 1) := by decide +kernel
theorem dX1_returnTo_6 : decode cX1_returnTo 6 = .ok (.getfield 21, 3) := by decide +kernel
theorem dX1_returnTo_9 : decode cX1_returnTo 9 = .ok (.arraylength, 1) := by decide +kernel
theorem dX1_returnTo_10 : decode cX1_returnTo 10 = .ok (.if_icmp .ge 16, 3) := by decide +kernel
theorem dX1_returnTo_13 : decode cX1_returnTo 13 = .ok (.aload_n 0, 1) := by decide +kernel
theorem dX1_returnTo_14 : decode cX1_returnTo 14 = .ok (.getfield 18, 3) := by decide +kernel
theorem dX1_returnTo_17 : decode cX1_returnTo 17 = .ok (.aload_n 0, 1) := by decide +kernel
theorem dX1_returnTo_18 : decode cX1_returnTo 18 = .ok (.getfield 21, 3) := by decide +kernel
theorem dX1_returnTo_21 : decode cX1_returnTo 21 = .ok (.iload_n 1, 1) := by decide +kernel
theorem dX1_returnTo_22 : decode cX1_returnTo 22 = .ok (.aaload, 1) := by decide +kernel
theorem dX1_returnTo_23 : decode cX1_returnTo 23 = .ok (.invokevirtual 57, 3) := by decide +kernel
theorem dX1_returnTo_26 : decode cX1_returnTo 26 = .ok (.return_, 1) := by decide +kernel
theorem dX1_store_0 : decode cX1_store 0 = .ok (.aload_n 0, 1) := by decide +kernel
theorem dX1_store_1 : decode cX1_store 1 = .ok (.getfield 12, 3) := by decide +kernel
theorem dX1_store_4 : decode cX1_store 4 = .ok (.aload_n 0, 1) := by decide +kernel
theorem dX1_store_5 : decode cX1_store 5 = .ok (.getfield 18, 3) := by decide +kernel
theorem dX1_store_8 : decode cX1_store 8 = .ok (.invokevirtual 57, 3) := by decide +kernel
theorem dX1_store_11 : decode cX1_store 11 = .ok (.aload_n 0, 1) := by decide +kernel
theorem dX1_store_12 : decode cX1_store 12 = .ok (.iconst 1, 1) := by decide +kernel
theorem dX1_store_13 : decode cX1_store 13 = .ok (.putfield 50, 3) := by decide +kernel
theorem dX1_store_16 : decode cX1_store 16 = .ok (.aload_n 0, 1) := by decide +kernel
theorem dX1_store_17 : decode cX1_store 17 = .ok (.iconst (-1), 1) := by decide +kernel
theorem dX1_store_18 : decode cX1_store 18 = .ok (.putfield 25, 3) := by decide +kernel
theorem dX1_store_21 : decode cX1_store 21 = .ok (.return_, 1) := by decide +kernel
theorem dX2_init_0 : decode cX2_init 0 = .ok (.aload_n 0, 1) := by decide +kernel
theorem dX2_init_1 : decode cX2_init 1 = .ok (.invokespecial 3, 3) := by decide +kernel
theorem dX2_init_4 : decode cX2_init 4 = .ok (.aload_n 0, 1) := by decide +kernel
theorem dX2_init_5 : decode cX2_init 5 = .ok (.sipush 300, 3) := by decide +kernel
theorem dX2_init_8 : decode cX2_init 8 = .ok (.newarray .int, 2) := by decide +kernel
theorem dX2_init_10 : decode cX2_init 10 = .ok (.putfield 11, 3) := by decide +kernel
theorem dX2_init_13 : decode cX2_init 13 = .ok (.return_, 1) := by decide +kernel
theorem dX2_copyFrom_0 : decode cX2_copyFrom 0 = .ok (.aload_n 1, 1) := by decide +kernel
theorem dX2_copyFrom_1 : decode cX2_copyFrom 1 = .ok (.getfield 11, 3) := by decide +kernel
theorem dX2_copyFrom_4 : decode cX2_copyFrom 4 = .ok (.iconst 0, 1) := by decide +kernel
theorem dX2_copyFrom_5 : decode cX2_copyFrom 5 = .ok (.aload_n 0, 1) := by decide +kernel
theorem dX2_copyFrom_6 : decode cX2_copyFrom 6 = .ok (.getfield 11, 3) := by decide +kernel
theorem dX2_copyFrom_9 : decode cX2_copyFrom 9 = .ok (.iconst 0, 1) := by decide +kernel
theorem dX2_copyFrom_10 : decode cX2_copyFrom 10 = .ok (.aload_n 0, 1) := by decide +kernel
theorem dX2_copyFrom_11 : decode cX2_copyFrom 11 = .ok (.getfield 11, 3) := by decide +kernel
theorem dX2_copyFrom_14 : decode cX2_copyFrom 14 = .ok (.arraylength, 1) := by decide +kernel
theorem dX2_copyFrom_15 : decode cX2_copyFrom 15 = .ok (.invokestatic 15, 3) := by decide +kernel
theorem dX2_copyFrom_18 : decode cX2_copyFrom 18 = .ok (.aload_n 0, 1) := by decide +kernel
theorem dX2_copyFrom_19 : decode cX2_copyFrom 19 = .ok (.aload_n 1, 1) := by decide +kernel
theorem dX2_copyFrom_20 : decode cX2_copyFrom 20 = .ok (.getfield 21, 3) := by decide +kernel
theorem dX2_copyFrom_23 : decode cX2_copyFrom 23 = .ok (.putfield 21, 3) := by decide +kernel
theorem dX2_copyFrom_26 : decode cX2_copyFrom 26 = .ok (.aload_n 0, 1) := by decide +kernel
theorem dX2_copyFrom_27 : decode cX2_copyFrom 27 = .ok (.aload_n 1, 1) := by decide +kernel
theorem dX2_copyFrom_28 : decode cX2_copyFrom 28 = .ok (.getfield 25, 3) := by decide +kernel
theorem dX2_copyFrom_31 : decode cX2_copyFrom 31 = .ok (.putfield 25, 3) := by decide +kernel
theorem dX2_copyFrom_34 : decode cX2_copyFrom 34 = .ok (.return_, 1) := by decide +kernel
theorem dX2_add_0 : decode cX2_add 0 = .ok (.aload_n 0, 1) := by decide +kernel
theorem dX2_add_1 : decode cX2_add 1 = .ok (.getfield 21, 3) := by decide +kernel
theorem dX2_add_4 : decode cX2_add 4 = .ok (.aload_n 0, 1) := by decide +kernel
theorem dX2_add_5 : decode cX2_add 5 = .ok (.getfield 25, 3) := by decide +kernel
theorem dX2_add_8 : decode cX2_add 8 = .ok (.iadd, 1) := by decide +kernel
theorem dX2_add_9 : decode cX2_add 9 = .ok (.bipush 60, 2) := by decide +kernel
theorem dX2_add_11 : decode cX2_add 11 = .ok (.irem, 1) := by decide +kernel
theorem dX2_add_12 : decode cX2_add 12 = .ok (.iconst 5, 1) := by decide +kernel
theorem dX2_add_13 : decode cX2_add 13 = .ok (.imul, 1) := by decide +kernel
theorem dX2_add_14 : decode cX2_add 14 = .ok (.istore_n 3, 1) := by decide +kernel
theorem dX2_add_15 : decode cX2_add 15 = .ok (.aload_n 0, 1) := by decide +kernel
theorem dX2_add_16 : decode cX2_add 16 = .ok (.getfield 11, 3) := by decide +kernel
theorem dX2_add_19 : decode cX2_add 19 = .ok (.iload_n 3, 1) := by decide +kernel
theorem dX2_add_20 : decode cX2_add 20 = .ok (.iconst 0, 1) := by decide +kernel
theorem dX2_add_21 : decode cX2_add 21 = .ok (.iadd, 1) := by decide +kernel
theorem dX2_add_22 : decode cX2_add 22 = .ok (.iload_n 1, 1) := by decide +kernel
theorem dX2_add_23 : decode cX2_add 23 = .ok (.iastore, 1) := by decide +kernel
theorem dX2_add_24 : decode cX2_add 24 = .ok (.aload_n 0, 1) := by decide +kernel
theorem dX2_add_25 : decode cX2_add 25 = .ok (.getfield 11, 3) := by decide +kernel
theorem dX2_add_28 : decode cX2_add 28 = .ok (.iload_n 3, 1) := by decide +kernel
theorem dX2_add_29 : decode cX2_add 29 = .ok (.iconst 1, 1) := by decide +kernel
theorem dX2_add_30 : decode cX2_add 30 = .ok (.iadd, 1) := by decide +kernel
theorem dX2_add_31 : decode cX2_add 31 = .ok (.aload_n 2, 1) := by decide +kernel
theorem dX2_add_32 : decode cX2_add 32 = .ok (.getfield 28, 3) := by decide +kernel
theorem dX2_add_35 : decode cX2_add 35 = .ok (.iastore, 1) := by decide +kernel
theorem dX2_add_36 : decode cX2_add 36 = .ok (.aload_n 0, 1) := by decide +kernel
theorem dX2_add_37 : decode cX2_add 37 = .ok (.getfield 11, 3) := by decide +kernel
theorem dX2_add_40 : decode cX2_add 40 = .ok (.iload_n 3, 1) := by decide +kernel
theorem dX2_add_41 : decode cX2_add 41 = .ok (.iconst 2, 1) := by decide +kernel
theorem dX2_add_42 : decode cX2_add 42 = .ok (.iadd, 1) := by decide +kernel
theorem dX2_add_43 : decode cX2_add 43 = .ok (.aload_n 2, 1) := by decide +kernel
theorem dX2_add_44 : decode cX2_add 44 = .ok (.getfield 33, 3) := by decide +kernel
theorem dX2_add_47 : decode cX2_add 47 = .ok (.getfield 37, 3) := by decide +kernel
theorem dX2_add_50 : decode cX2_add 50 = .ok (.iastore, 1) := by decide +kernel
theorem dX2_add_51 : decode cX2_add 51 = .ok (.aload_n 0, 1) := by decide +kernel
theorem dX2_add_52 : decode cX2_add 52 = .ok (.getfield 11, 3) := by decide +kernel
theorem dX2_add_55 : decode cX2_add 55 = .ok (.iload_n 3, 1) := by decide +kernel
theorem dX2_add_56 : decode cX2_add 56 = .ok (.iconst 3, 1) := by decide +kernel
theorem dX2_add_57 : decode cX2_add 57 = .ok (.iadd, 1) := by decide +kernel
theorem dX2_add_58 : decode cX2_add 58 = .ok (.aload_n 2, 1) := by decide +kernel
theorem dX2_add_59 : decode cX2_add 59 = .ok (.getfield 33, 3) := by decide +kernel
theorem dX2_add_62 : decode cX2_add 62 = .ok (.getfield 42, 3) := by decide +kernel
theorem dX2_add_65 : decode cX2_add 65 = .ok (.iastore, 1) := by decide +kernel
theorem dX2_add_66 : decode cX2_add 66 = .ok (.aload_n 0, 1) := by decide +kernel
theorem dX2_add_67 : decode cX2_add 67 = .ok (.getfield 11, 3) := by decide +kernel
theorem dX2_add_70 : decode cX2_add 70 = .ok (.iload_n 3, 1) := by decide +kernel
theorem dX2_add_71 : decode cX2_add 71 = .ok (.iconst 4, 1) := by decide +kernel
theorem dX2_add_72 : decode cX2_add 72 = .ok (.iadd, 1) := by decide +kernel
theorem dX2_add_73 : decode cX2_add 73 = .ok (.aload_n 2, 1) := by decide +kernel
theorem dX2_add_74 : decode cX2_add 74 = .ok (.getfield 33, 3) := by decide +kernel
theorem dX2_add_77 : decode cX2_add 77 = .ok (.getfield 45, 3) := by decide +kernel
theorem dX2_add_80 : decode cX2_add 80 = .ok (.iastore, 1) := by decide +kernel
theorem dX2_add_81 : decode cX2_add 81 = .ok (.aload_n 0, 1) := by decide +kernel
theorem dX2_add_82 : decode cX2_add 82 = .ok (.getfield 25, 3) := by decide +kernel
theorem dX2_add_85 : decode cX2_add 85 = .ok (.bipush 60, 2) := by decide +kernel
theorem dX2_add_87 : decode cX2_add 87 = .ok (.if_icmp .ge 16, 3) := by decide +kernel
theorem dX2_add_90 : decode cX2_add 90 = .ok (.aload_n 0, 1) := by decide +kernel
theorem dX2_add_91 : decode cX2_add 91 = .ok (.dup, 1) := by decide +kernel
theorem dX2_add_92 : decode cX2_add 92 = .ok (.getfield 25, 3) := by decide +kernel
theorem dX2_add_95 : decode cX2_add 95 = .ok (.iconst 1, 1) := by decide +kernel
theorem dX2_add_96 : decode cX2_add 96 = .ok (.iadd, 1) := by decide +kernel
theorem dX2_add_97 : decode cX2_add 97 = .ok (.putfield 25, 3) := by decide +kernel
theorem dX2_add_100 : decode cX2_add 100 = .ok (.goto 16, 3) := by decide +kernel
theorem dX2_add_103 : decode cX2_add 103 = .ok (.aload_n 0, 1) := by decide +kernel
theorem dX2_add_104 : decode cX2_add 104 = .ok (.aload_n 0, 1) := by decide +kernel
theorem dX2_add_105 : decode cX2_add 105 = .ok (.getfield 21, 3) := by decide +kernel
theorem dX2_add_108 : decode cX2_add 108 = .ok (.iconst 1, 1) := by decide +kernel
theorem dX2_add_109 : decode cX2_add 109 = .ok (.iadd, 1) := by decide +kernel
theorem dX2_add_110 : decode cX2_add 110 = .ok (.bipush 60, 2) := by decide +kernel
theorem dX2_add_112 : decode cX2_add 112 = .ok (.irem, 1) := by decide +kernel
theorem dX2_add_113 : decode cX2_add 113 = .ok (.putfield 21, 3) := by decide +kernel
theorem dX2_add_116 : decode cX2_add 116 = .ok (.return_, 1) := by decide +kernel
theorem dX2_cell_0 : decode cX2_cell 0 = .ok (.iload_n 1, 1) := by decide +kernel
theorem dX2_cell_1 : decode cX2_cell 1 = .ok (.ifCond .lt 20, 3) := by decide +kernel
theorem dX2_cell_4 : decode cX2_cell 4 = .ok (.iload_n 1, 1) := by decide +kernel
theorem dX2_cell_5 : decode cX2_cell 5 = .ok (.aload_n 0, 1) := by decide +kernel
theorem dX2_cell_6 : decode cX2_cell 6 = .ok (.getfield 25, 3) := by decide +kernel
theorem dX2_cell_9 : decode cX2_cell 9 = .ok (.if_icmp .ge 12, 3) := by decide +kernel
theorem dX2_cell_12 : decode cX2_cell 12 = .ok (.iload_n 2, 1) := by decide +kernel
theorem dX2_cell_13 : decode cX2_cell 13 = .ok (.ifCond .lt 8, 3) := by decide +kernel
theorem dX2_cell_16 : decode cX2_cell 16 = .ok (.iload_n 2, 1) := by decide +kernel
theorem dX2_cell_17 : decode cX2_cell 17 = .ok (.iconst 5, 1) := by decide +kernel
theorem dX2_cell_18 : decode cX2_cell 18 = .ok (.if_icmp .lt 5, 3) := by decide +kernel
theorem dX2_cell_21 : decode cX2_cell 21 = .ok (.iconst (-1), 1) := by decide +kernel
theorem dX2_cell_22 : decode cX2_cell 22 = .ok (.ireturn, 1) := by decide +kernel
theorem dX2_cell_23 : decode cX2_cell 23 = .ok (.aload_n 0, 1) := by decide +kernel
theorem dX2_cell_24 : decode cX2_cell 24 = .ok (.getfield 11, 3) := by decide +kernel
theorem dX2_cell_27 : decode cX2_cell 27 = .ok (.aload_n 0, 1) := by decide +kernel
theorem dX2_cell_28 : decode cX2_cell 28 = .ok (.getfield 21, 3) := by decide +kernel
theorem dX2_cell_31 : decode cX2_cell 31 = .ok (.iload_n 1, 1) := by decide +kernel
theorem dX2_cell_32 : decode cX2_cell 32 = .ok (.iadd, 1) := by decide +kernel
theorem dX2_cell_33 : decode cX2_cell 33 = .ok (.bipush 60, 2) := by decide +kernel
theorem dX2_cell_35 : decode cX2_cell 35 = .ok (.irem, 1) := by decide +kernel
theorem dX2_cell_36 : decode cX2_cell 36 = .ok (.iconst 5, 1) := by decide +kernel
theorem dX2_cell_37 : decode cX2_cell 37 = .ok (.imul, 1) := by decide +kernel
theorem dX2_cell_38 : decode cX2_cell 38 = .ok (.iload_n 2, 1) := by decide +kernel
theorem dX2_cell_39 : decode cX2_cell 39 = .ok (.iadd, 1) := by decide +kernel
theorem dX2_cell_40 : decode cX2_cell 40 = .ok (.iaload, 1) := by decide +kernel
theorem dX2_cell_41 : decode cX2_cell 41 = .ok (.ireturn, 1) := by decide +kernel
theorem dX2_isHeldOf_0 : decode cX2_isHeldOf 0 = .ok (.aload_n 0, 1) := by decide +kernel
theorem dX2_isHeldOf_1 : decode cX2_isHeldOf 1 = .ok (.iload_n 1, 1) := by decide +kernel
theorem dX2_isHeldOf_2 : decode cX2_isHeldOf 2 = .ok (.iconst 1, 1) := by decide +kernel
theorem dX2_isHeldOf_3 : decode cX2_isHeldOf 3 = .ok (.invokevirtual 48, 3) := by decide +kernel
theorem dX2_isHeldOf_6 : decode cX2_isHeldOf 6 = .ok (.iload_n 2, 1) := by decide +kernel
theorem dX2_isHeldOf_7 : decode cX2_isHeldOf 7 = .ok (.if_icmp .ne 17, 3) := by decide +kernel
theorem dX2_isHeldOf_10 : decode cX2_isHeldOf 10 = .ok (.aload_n 0, 1) := by decide +kernel
theorem dX2_isHeldOf_11 : decode cX2_isHeldOf 11 = .ok (.iload_n 1, 1) := by decide +kernel
theorem dX2_isHeldOf_12 : decode cX2_isHeldOf 12 = .ok (.iconst 2, 1) := by decide +kernel
theorem dX2_isHeldOf_13 : decode cX2_isHeldOf 13 = .ok (.invokevirtual 48, 3) := by decide +kernel
theorem dX2_isHeldOf_16 : decode cX2_isHeldOf 16 = .ok (.iconst 1, 1) := by decide +kernel
theorem dX2_isHeldOf_17 : decode cX2_isHeldOf 17 = .ok (.if_icmp .ne 7, 3) := by decide +kernel
theorem dX2_isHeldOf_20 : decode cX2_isHeldOf 20 = .ok (.iconst 1, 1) := by decide +kernel
theorem dX2_isHeldOf_21 : decode cX2_isHeldOf 21 = .ok (.goto 4, 3) := by decide +kernel
theorem dX2_isHeldOf_24 : decode cX2_isHeldOf 24 = .ok (.iconst 0, 1) := by decide +kernel
theorem dX2_isHeldOf_25 : decode cX2_isHeldOf 25 = .ok (.ireturn, 1) := by decide +kernel
theorem dX2_tokenAt_0 : decode cX2_tokenAt 0 = .ok (.aload_n 0, 1) := by decide +kernel
theorem dX2_tokenAt_1 : decode cX2_tokenAt 1 = .ok (.getfield 25, 3) := by decide +kernel
theorem dX2_tokenAt_4 : decode cX2_tokenAt 4 = .ok (.iconst 1, 1) := by decide +kernel
theorem dX2_tokenAt_5 : decode cX2_tokenAt 5 = .ok (.isub, 1) := by decide +kernel
theorem dX2_tokenAt_6 : decode cX2_tokenAt 6 = .ok (.istore_n 3, 1) := by decide +kernel
theorem dX2_tokenAt_7 : decode cX2_tokenAt 7 = .ok (.iload_n 3, 1) := by decide +kernel
theorem dX2_tokenAt_8 : decode cX2_tokenAt 8 = .ok (.ifCond .lt 50, 3) := by decide +kernel
theorem dX2_tokenAt_11 : decode cX2_tokenAt 11 = .ok (.aload_n 0, 1) := by decide +kernel
theorem dX2_tokenAt_12 : decode cX2_tokenAt 12 = .ok (.iload_n 3, 1) := by decide +kernel
theorem dX2_tokenAt_13 : decode cX2_tokenAt 13 = .ok (.iconst 1, 1) := by decide +kernel
theorem dX2_tokenAt_14 : decode cX2_tokenAt 14 = .ok (.invokevirtual 48, 3) := by decide +kernel
theorem dX2_tokenAt_17 : decode cX2_tokenAt 17 = .ok (.iload_n 1, 1) := by decide +kernel
theorem dX2_tokenAt_18 : decode cX2_tokenAt 18 = .ok (.if_icmp .ne 34, 3) := by decide +kernel
theorem dX2_tokenAt_21 : decode cX2_tokenAt 21 = .ok (.aload_n 0, 1) := by decide +kernel
theorem dX2_tokenAt_22 : decode cX2_tokenAt 22 = .ok (.iload_n 3, 1) := by decide +kernel
theorem dX2_tokenAt_23 : decode cX2_tokenAt 23 = .ok (.iconst 0, 1) := by decide +kernel
theorem dX2_tokenAt_24 : decode cX2_tokenAt 24 = .ok (.invokevirtual 48, 3) := by decide +kernel
theorem dX2_tokenAt_27 : decode cX2_tokenAt 27 = .ok (.iload_n 2, 1) := by decide +kernel
theorem dX2_tokenAt_28 : decode cX2_tokenAt 28 = .ok (.if_icmp .gt 24, 3) := by decide +kernel
theorem dX2_tokenAt_31 : decode cX2_tokenAt 31 = .ok (.aload_n 0, 1) := by decide +kernel
theorem dX2_tokenAt_32 : decode cX2_tokenAt 32 = .ok (.iload_n 3, 1) := by decide +kernel
theorem dX2_tokenAt_33 : decode cX2_tokenAt 33 = .ok (.iconst 2, 1) := by decide +kernel
theorem dX2_tokenAt_34 : decode cX2_tokenAt 34 = .ok (.invokevirtual 48, 3) := by decide +kernel
theorem dX2_tokenAt_37 : decode cX2_tokenAt 37 = .ok (.iconst 1, 1) := by decide +kernel
theorem dX2_tokenAt_38 : decode cX2_tokenAt 38 = .ok (.if_icmp .ne 12, 3) := by decide +kernel
theorem dX2_tokenAt_41 : decode cX2_tokenAt 41 = .ok (.aload_n 0, 1) := by decide +kernel
theorem dX2_tokenAt_42 : decode cX2_tokenAt 42 = .ok (.iload_n 3, 1) := by decide +kernel
theorem dX2_tokenAt_43 : decode cX2_tokenAt 43 = .ok (.iconst 3, 1) := by decide +kernel
theorem dX2_tokenAt_44 : decode cX2_tokenAt 44 = .ok (.invokevirtual 48, 3) := by decide +kernel
theorem dX2_tokenAt_47 : decode cX2_tokenAt 47 = .ok (.goto 4, 3) := by decide +kernel
theorem dX2_tokenAt_50 : decode cX2_tokenAt 50 = .ok (.iconst (-1), 1) := by decide +kernel
theorem dX2_tokenAt_51 : decode cX2_tokenAt 51 = .ok (.ireturn, 1) := by decide +kernel
theorem dX2_tokenAt_52 : decode cX2_tokenAt 52 = .ok (.iinc 3 (-1), 3) := by decide +kernel
theorem dX2_tokenAt_55 : decode cX2_tokenAt 55 = .ok (.goto (-48), 3) := by decide +kernel
theorem dX2_tokenAt_58 : decode cX2_tokenAt 58 = .ok (.iconst (-1), 1) := by decide +kernel
theorem dX2_tokenAt_59 : decode cX2_tokenAt 59 = .ok (.ireturn, 1) := by decide +kernel
theorem dX2_longestHold_0 : decode cX2_longestHold 0 = .ok (.iconst 0, 1) := by decide +kernel
theorem dX2_longestHold_1 : decode cX2_longestHold 1 = .ok (.istore_n 1, 1) := by decide +kernel
theorem dX2_longestHold_2 : decode cX2_longestHold 2 = .ok (.iconst 0, 1) := by decide +kernel
theorem dX2_longestHold_3 : decode cX2_longestHold 3 = .ok (.istore_n 2, 1) := by decide +kernel
theorem dX2_longestHold_4 : decode cX2_longestHold 4 = .ok (.iload_n 2, 1) := by decide +kernel
theorem dX2_longestHold_5 : decode cX2_longestHold 5 = .ok (.aload_n 0, 1) := by decide +kernel
theorem dX2_longestHold_6 : decode cX2_longestHold 6 = .ok (.getfield 25, 3) := by decide +kernel
theorem dX2_longestHold_9 : decode cX2_longestHold 9 = .ok (.if_icmp .ge 29, 3) := by decide +kernel
theorem dX2_longestHold_12 : decode cX2_longestHold 12 = .ok (.aload_n 0, 1) := by decide +kernel
theorem dX2_longestHold_13 : decode cX2_longestHold 13 = .ok (.iload_n 2, 1) := by decide +kernel
theorem dX2_longestHold_14 : decode cX2_longestHold 14 = .ok (.iconst 2, 1) := by decide +kernel
theorem dX2_longestHold_15 : decode cX2_longestHold 15 = .ok (.invokevirtual 48, 3) := by decide +kernel
theorem dX2_longestHold_18 : decode cX2_longestHold 18 = .ok (.iconst 1, 1) := by decide +kernel
theorem dX2_longestHold_19 : decode cX2_longestHold 19 = .ok (.if_icmp .ne 13, 3) := by decide +kernel
theorem dX2_longestHold_22 : decode cX2_longestHold 22 = .ok (.iload_n 1, 1) := by decide +kernel
theorem dX2_longestHold_23 : decode cX2_longestHold 23 = .ok (.aload_n 0, 1) := by decide +kernel
theorem dX2_longestHold_24 : decode cX2_longestHold 24 = .ok (.iload_n 2, 1) := by decide +kernel
theorem dX2_longestHold_25 : decode cX2_longestHold 25 = .ok (.invokevirtual 52, 3) := by decide +kernel
theorem dX2_longestHold_28 : decode cX2_longestHold 28 = .ok (.invokestatic 56, 3) := by decide +kernel
theorem dX2_longestHold_31 : decode cX2_longestHold 31 = .ok (.istore_n 1, 1) := by decide +kernel
theorem dX2_longestHold_32 : decode cX2_longestHold 32 = .ok (.iinc 2 1, 3) := by decide +kernel
theorem dX2_longestHold_35 : decode cX2_longestHold 35 = .ok (.goto (-31), 3) := by decide +kernel
theorem dX2_longestHold_38 : decode cX2_longestHold 38 = .ok (.iload_n 1, 1) := by decide +kernel
theorem dX2_longestHold_39 : decode cX2_longestHold 39 = .ok (.ireturn, 1) := by decide +kernel
theorem dX2_holdFrom_0 : decode cX2_holdFrom 0 = .ok (.iload_n 1, 1) := by decide +kernel
theorem dX2_holdFrom_1 : decode cX2_holdFrom 1 = .ok (.iconst 1, 1) := by decide +kernel
theorem dX2_holdFrom_2 : decode cX2_holdFrom 2 = .ok (.iadd, 1) := by decide +kernel
theorem dX2_holdFrom_3 : decode cX2_holdFrom 3 = .ok (.istore_n 2, 1) := by decide +kernel
theorem dX2_holdFrom_4 : decode cX2_holdFrom 4 = .ok (.iload_n 2, 1) := by decide +kernel
theorem dX2_holdFrom_5 : decode cX2_holdFrom 5 = .ok (.aload_n 0, 1) := by decide +kernel
theorem dX2_holdFrom_6 : decode cX2_holdFrom 6 = .ok (.getfield 25, 3) := by decide +kernel
theorem dX2_holdFrom_9 : decode cX2_holdFrom 9 = .ok (.if_icmp .ge 67, 3) := by decide +kernel
theorem dX2_holdFrom_12 : decode cX2_holdFrom 12 = .ok (.aload_n 0, 1) := by decide +kernel
theorem dX2_holdFrom_13 : decode cX2_holdFrom 13 = .ok (.iload_n 2, 1) := by decide +kernel
theorem dX2_holdFrom_14 : decode cX2_holdFrom 14 = .ok (.iconst 1, 1) := by decide +kernel
theorem dX2_holdFrom_15 : decode cX2_holdFrom 15 = .ok (.invokevirtual 48, 3) := by decide +kernel
theorem dX2_holdFrom_18 : decode cX2_holdFrom 18 = .ok (.aload_n 0, 1) := by decide +kernel
theorem dX2_holdFrom_19 : decode cX2_holdFrom 19 = .ok (.iload_n 1, 1) := by decide +kernel
theorem dX2_holdFrom_20 : decode cX2_holdFrom 20 = .ok (.iconst 1, 1) := by decide +kernel
theorem dX2_holdFrom_21 : decode cX2_holdFrom 21 = .ok (.invokevirtual 48, 3) := by decide +kernel
theorem dX2_holdFrom_24 : decode cX2_holdFrom 24 = .ok (.if_icmp .ne 46, 3) := by decide +kernel
theorem dX2_holdFrom_27 : decode cX2_holdFrom 27 = .ok (.aload_n 0, 1) := by decide +kernel
theorem dX2_holdFrom_28 : decode cX2_holdFrom 28 = .ok (.iload_n 2, 1) := by decide +kernel
theorem dX2_holdFrom_29 : decode cX2_holdFrom 29 = .ok (.iconst 3, 1) := by decide +kernel
theorem dX2_holdFrom_30 : decode cX2_holdFrom 30 = .ok (.invokevirtual 48, 3) := by decide +kernel
theorem dX2_holdFrom_33 : decode cX2_holdFrom 33 = .ok (.aload_n 0, 1) := by decide +kernel
theorem dX2_holdFrom_34 : decode cX2_holdFrom 34 = .ok (.iload_n 1, 1) := by decide +kernel
theorem dX2_holdFrom_35 : decode cX2_holdFrom 35 = .ok (.iconst 3, 1) := by decide +kernel
theorem dX2_holdFrom_36 : decode cX2_holdFrom 36 = .ok (.invokevirtual 48, 3) := by decide +kernel
theorem dX2_holdFrom_39 : decode cX2_holdFrom 39 = .ok (.if_icmp .ne 7, 3) := by decide +kernel
theorem dX2_holdFrom_42 : decode cX2_holdFrom 42 = .ok (.iconst 1, 1) := by decide +kernel
theorem dX2_holdFrom_43 : decode cX2_holdFrom 43 = .ok (.goto 4, 3) := by decide +kernel
theorem dX2_holdFrom_46 : decode cX2_holdFrom 46 = .ok (.iconst 0, 1) := by decide +kernel
theorem dX2_holdFrom_47 : decode cX2_holdFrom 47 = .ok (.istore_n 3, 1) := by decide +kernel
theorem dX2_holdFrom_48 : decode cX2_holdFrom 48 = .ok (.iload_n 3, 1) := by decide +kernel
theorem dX2_holdFrom_49 : decode cX2_holdFrom 49 = .ok (.ifCond .eq 19, 3) := by decide +kernel
theorem dX2_holdFrom_52 : decode cX2_holdFrom 52 = .ok (.aload_n 0, 1) := by decide +kernel
theorem dX2_holdFrom_53 : decode cX2_holdFrom 53 = .ok (.iload_n 2, 1) := by decide +kernel
theorem dX2_holdFrom_54 : decode cX2_holdFrom 54 = .ok (.iconst 0, 1) := by decide +kernel
theorem dX2_holdFrom_55 : decode cX2_holdFrom 55 = .ok (.invokevirtual 48, 3) := by decide +kernel
theorem dX2_holdFrom_58 : decode cX2_holdFrom 58 = .ok (.aload_n 0, 1) := by decide +kernel
theorem dX2_holdFrom_59 : decode cX2_holdFrom 59 = .ok (.iload_n 1, 1) := by decide +kernel
theorem dX2_holdFrom_60 : decode cX2_holdFrom 60 = .ok (.iconst 0, 1) := by decide +kernel
theorem dX2_holdFrom_61 : decode cX2_holdFrom 61 = .ok (.invokevirtual 48, 3) := by decide +kernel
theorem dX2_holdFrom_64 : decode cX2_holdFrom 64 = .ok (.isub, 1) := by decide +kernel
theorem dX2_holdFrom_65 : decode cX2_holdFrom 65 = .ok (.goto 4, 3) := by decide +kernel
theorem dX2_holdFrom_68 : decode cX2_holdFrom 68 = .ok (.iconst 0, 1) := by decide +kernel
theorem dX2_holdFrom_69 : decode cX2_holdFrom 69 = .ok (.ireturn, 1) := by decide +kernel
theorem dX2_holdFrom_70 : decode cX2_holdFrom 70 = .ok (.iinc 2 1, 3) := by decide +kernel
theorem dX2_holdFrom_73 : decode cX2_holdFrom 73 = .ok (.goto (-69), 3) := by decide +kernel
theorem dX2_holdFrom_76 : decode cX2_holdFrom 76 = .ok (.iconst 0, 1) := by decide +kernel
theorem dX2_holdFrom_77 : decode cX2_holdFrom 77 = .ok (.ireturn, 1) := by decide +kernel
theorem dX2_firstHold_0 : decode cX2_firstHold 0 = .ok (.iconst 0, 1) := by decide +kernel
theorem dX2_firstHold_1 : decode cX2_firstHold 1 = .ok (.istore_n 2, 1) := by decide +kernel
theorem dX2_firstHold_2 : decode cX2_firstHold 2 = .ok (.iload_n 2, 1) := by decide +kernel
theorem dX2_firstHold_3 : decode cX2_firstHold 3 = .ok (.aload_n 0, 1) := by decide +kernel
theorem dX2_firstHold_4 : decode cX2_firstHold 4 = .ok (.getfield 25, 3) := by decide +kernel
theorem dX2_firstHold_7 : decode cX2_firstHold 7 = .ok (.if_icmp .ge 20, 3) := by decide +kernel
theorem dX2_firstHold_10 : decode cX2_firstHold 10 = .ok (.aload_n 0, 1) := by decide +kernel
theorem dX2_firstHold_11 : decode cX2_firstHold 11 = .ok (.iload_n 2, 1) := by decide +kernel
theorem dX2_firstHold_12 : decode cX2_firstHold 12 = .ok (.iload_n 1, 1) := by decide +kernel
theorem dX2_firstHold_13 : decode cX2_firstHold 13 = .ok (.invokevirtual 61, 3) := by decide +kernel
theorem dX2_firstHold_16 : decode cX2_firstHold 16 = .ok (.ifCond .eq 5, 3) := by decide +kernel
theorem dX2_firstHold_19 : decode cX2_firstHold 19 = .ok (.iload_n 2, 1) := by decide +kernel
theorem dX2_firstHold_20 : decode cX2_firstHold 20 = .ok (.ireturn, 1) := by decide +kernel
theorem dX2_firstHold_21 : decode cX2_firstHold 21 = .ok (.iinc 2 1, 3) := by decide +kernel
theorem dX2_firstHold_24 : decode cX2_firstHold 24 = .ok (.goto (-22), 3) := by decide +kernel
theorem dX2_firstHold_27 : decode cX2_firstHold 27 = .ok (.iconst (-1), 1) := by decide +kernel
theorem dX2_firstHold_28 : decode cX2_firstHold 28 = .ok (.ireturn, 1) := by decide +kernel
theorem dX3_init_0 : decode cX3_init 0 = .ok (.aload_n 0, 1) := by decide +kernel
theorem dX3_init_1 : decode cX3_init 1 = .ok (.invokespecial 3, 3) := by decide +kernel
theorem dX3_init_4 : decode cX3_init 4 = .ok (.aload_n 0, 1) := by decide +kernel
theorem dX3_init_5 : decode cX3_init 5 = .ok (.iconst 4, 1) := by decide +kernel
theorem dX3_init_6 : decode cX3_init 6 = .ok (.newarray .int, 2) := by decide +kernel
theorem dX3_init_8 : decode cX3_init 8 = .ok (.putfield 11, 3) := by decide +kernel
theorem dX3_init_11 : decode cX3_init 11 = .ok (.aload_n 0, 1) := by decide +kernel
theorem dX3_init_12 : decode cX3_init 12 = .ok (.iconst 4, 1) := by decide +kernel
theorem dX3_init_13 : decode cX3_init 13 = .ok (.newarray .char, 2) := by decide +kernel
theorem dX3_init_15 : decode cX3_init 15 = .ok (.putfield 15, 3) := by decide +kernel
theorem dX3_init_18 : decode cX3_init 18 = .ok (.aload_n 0, 1) := by decide +kernel
theorem dX3_init_19 : decode cX3_init 19 = .ok (.iconst 4, 1) := by decide +kernel
theorem dX3_init_20 : decode cX3_init 20 = .ok (.newarray .int, 2) := by decide +kernel
theorem dX3_init_22 : decode cX3_init 22 = .ok (.putfield 19, 3) := by decide +kernel
theorem dX3_init_25 : decode cX3_init 25 = .ok (.aload_n 0, 1) := by decide +kernel
theorem dX3_init_26 : decode cX3_init 26 = .ok (.iconst 4, 1) := by decide +kernel
theorem dX3_init_27 : decode cX3_init 27 = .ok (.newarray .int, 2) := by decide +kernel
theorem dX3_init_29 : decode cX3_init 29 = .ok (.putfield 22, 3) := by decide +kernel
theorem dX3_init_32 : decode cX3_init 32 = .ok (.aload_n 0, 1) := by decide +kernel
theorem dX3_init_33 : decode cX3_init 33 = .ok (.iconst 4, 1) := by decide +kernel
theorem dX3_init_34 : decode cX3_init 34 = .ok (.newarray .boolean, 2) := by decide +kernel
theorem dX3_init_36 : decode cX3_init 36 = .ok (.putfield 25, 3) := by decide +kernel
theorem dX3_init_39 : decode cX3_init 39 = .ok (.aload_n 0, 1) := by decide +kernel
theorem dX3_init_40 : decode cX3_init 40 = .ok (.iconst 1, 1) := by decide +kernel
theorem dX3_init_41 : decode cX3_init 41 = .ok (.putfield 29, 3) := by decide +kernel
theorem dX3_init_44 : decode cX3_init 44 = .ok (.return_, 1) := by decide +kernel
theorem dX3_clear_0 : decode cX3_clear 0 = .ok (.aload_n 0, 1) := by decide +kernel
theorem dX3_clear_1 : decode cX3_clear 1 = .ok (.iconst 1, 1) := by decide +kernel
theorem dX3_clear_2 : decode cX3_clear 2 = .ok (.putfield 29, 3) := by decide +kernel
theorem dX3_clear_5 : decode cX3_clear 5 = .ok (.aload_n 0, 1) := by decide +kernel
theorem dX3_clear_6 : decode cX3_clear 6 = .ok (.iconst 0, 1) := by decide +kernel
theorem dX3_clear_7 : decode cX3_clear 7 = .ok (.putfield 33, 3) := by decide +kernel
theorem dX3_clear_10 : decode cX3_clear 10 = .ok (.aload_n 0, 1) := by decide +kernel
theorem dX3_clear_11 : decode cX3_clear 11 = .ok (.iconst 0, 1) := by decide +kernel
theorem dX3_clear_12 : decode cX3_clear 12 = .ok (.putfield 36, 3) := by decide +kernel
theorem dX3_clear_15 : decode cX3_clear 15 = .ok (.return_, 1) := by decide +kernel
theorem dX3_copyFrom_0 : decode cX3_copyFrom 0 = .ok (.aload_n 0, 1) := by decide +kernel
theorem dX3_copyFrom_1 : decode cX3_copyFrom 1 = .ok (.aload_n 1, 1) := by decide +kernel
theorem dX3_copyFrom_2 : decode cX3_copyFrom 2 = .ok (.getfield 29, 3) := by decide +kernel
theorem dX3_copyFrom_5 : decode cX3_copyFrom 5 = .ok (.putfield 29, 3) := by decide +kernel
theorem dX3_copyFrom_8 : decode cX3_copyFrom 8 = .ok (.aload_n 0, 1) := by decide +kernel
theorem dX3_copyFrom_9 : decode cX3_copyFrom 9 = .ok (.aload_n 1, 1) := by decide +kernel
theorem dX3_copyFrom_10 : decode cX3_copyFrom 10 = .ok (.getfield 33, 3) := by decide +kernel
theorem dX3_copyFrom_13 : decode cX3_copyFrom 13 = .ok (.putfield 33, 3) := by decide +kernel
theorem dX3_copyFrom_16 : decode cX3_copyFrom 16 = .ok (.aload_n 0, 1) := by decide +kernel
theorem dX3_copyFrom_17 : decode cX3_copyFrom 17 = .ok (.aload_n 1, 1) := by decide +kernel
theorem dX3_copyFrom_18 : decode cX3_copyFrom 18 = .ok (.getfield 36, 3) := by decide +kernel
theorem dX3_copyFrom_21 : decode cX3_copyFrom 21 = .ok (.putfield 36, 3) := by decide +kernel
theorem dX3_copyFrom_24 : decode cX3_copyFrom 24 = .ok (.iconst 0, 1) := by decide +kernel
theorem dX3_copyFrom_25 : decode cX3_copyFrom 25 = .ok (.istore_n 2, 1) := by decide +kernel
theorem dX3_copyFrom_26 : decode cX3_copyFrom 26 = .ok (.iload_n 2, 1) := by decide +kernel
theorem dX3_copyFrom_27 : decode cX3_copyFrom 27 = .ok (.aload_n 0, 1) := by decide +kernel
theorem dX3_copyFrom_28 : decode cX3_copyFrom 28 = .ok (.getfield 33, 3) := by decide +kernel
theorem dX3_copyFrom_31 : decode cX3_copyFrom 31 = .ok (.if_icmp .ge 50, 3) := by decide +kernel
theorem dX3_copyFrom_34 : decode cX3_copyFrom 34 = .ok (.iload_n 2, 1) := by decide +kernel
theorem dX3_copyFrom_35 : decode cX3_copyFrom 35 = .ok (.iconst 4, 1) := by decide +kernel
theorem dX3_copyFrom_36 : decode cX3_copyFrom 36 = .ok (.if_icmp .ge 45, 3) := by decide +kernel
theorem dX3_copyFrom_39 : decode cX3_copyFrom 39 = .ok (.aload_n 0, 1) := by decide +kernel
theorem dX3_copyFrom_40 : decode cX3_copyFrom 40 = .ok (.getfield 11, 3) := by decide +kernel
theorem dX3_copyFrom_43 : decode cX3_copyFrom 43 = .ok (.iload_n 2, 1) := by decide +kernel
theorem dX3_copyFrom_44 : decode cX3_copyFrom 44 = .ok (.aload_n 1, 1) := by decide +kernel
theorem dX3_copyFrom_45 : decode cX3_copyFrom 45 = .ok (.getfield 11, 3) := by decide +kernel
theorem dX3_copyFrom_48 : decode cX3_copyFrom 48 = .ok (.iload_n 2, 1) := by decide +kernel
theorem dX3_copyFrom_49 : decode cX3_copyFrom 49 = .ok (.iaload, 1) := by decide +kernel
theorem dX3_copyFrom_50 : decode cX3_copyFrom 50 = .ok (.iastore, 1) := by decide +kernel
theorem dX3_copyFrom_51 : decode cX3_copyFrom 51 = .ok (.aload_n 0, 1) := by decide +kernel
theorem dX3_copyFrom_52 : decode cX3_copyFrom 52 = .ok (.getfield 15, 3) := by decide +kernel
theorem dX3_copyFrom_55 : decode cX3_copyFrom 55 = .ok (.iload_n 2, 1) := by decide +kernel
theorem dX3_copyFrom_56 : decode cX3_copyFrom 56 = .ok (.aload_n 1, 1) := by decide +kernel
theorem dX3_copyFrom_57 : decode cX3_copyFrom 57 = .ok (.getfield 15, 3) := by decide +kernel
theorem dX3_copyFrom_60 : decode cX3_copyFrom 60 = .ok (.iload_n 2, 1) := by decide +kernel
theorem dX3_copyFrom_61 : decode cX3_copyFrom 61 = .ok (.caload, 1) := by decide +kernel
theorem dX3_copyFrom_62 : decode cX3_copyFrom 62 = .ok (.castore, 1) := by decide +kernel
theorem dX3_copyFrom_63 : decode cX3_copyFrom 63 = .ok (.aload_n 0, 1) := by decide +kernel
theorem dX3_copyFrom_64 : decode cX3_copyFrom 64 = .ok (.getfield 19, 3) := by decide +kernel
theorem dX3_copyFrom_67 : decode cX3_copyFrom 67 = .ok (.iload_n 2, 1) := by decide +kernel
theorem dX3_copyFrom_68 : decode cX3_copyFrom 68 = .ok (.aload_n 1, 1) := by decide +kernel
theorem dX3_copyFrom_69 : decode cX3_copyFrom 69 = .ok (.getfield 19, 3) := by decide +kernel
theorem dX3_copyFrom_72 : decode cX3_copyFrom 72 = .ok (.iload_n 2, 1) := by decide +kernel
theorem dX3_copyFrom_73 : decode cX3_copyFrom 73 = .ok (.iaload, 1) := by decide +kernel
theorem dX3_copyFrom_74 : decode cX3_copyFrom 74 = .ok (.iastore, 1) := by decide +kernel
theorem dX3_copyFrom_75 : decode cX3_copyFrom 75 = .ok (.iinc 2 1, 3) := by decide +kernel
theorem dX3_copyFrom_78 : decode cX3_copyFrom 78 = .ok (.goto (-52), 3) := by decide +kernel
theorem dX3_copyFrom_81 : decode cX3_copyFrom 81 = .ok (.iconst 0, 1) := by decide +kernel
theorem dX3_copyFrom_82 : decode cX3_copyFrom 82 = .ok (.istore_n 2, 1) := by decide +kernel
theorem dX3_copyFrom_83 : decode cX3_copyFrom 83 = .ok (.iload_n 2, 1) := by decide +kernel
theorem dX3_copyFrom_84 : decode cX3_copyFrom 84 = .ok (.aload_n 0, 1) := by decide +kernel
theorem dX3_copyFrom_85 : decode cX3_copyFrom 85 = .ok (.getfield 36, 3) := by decide +kernel
theorem dX3_copyFrom_88 : decode cX3_copyFrom 88 = .ok (.if_icmp .ge 38, 3) := by decide +kernel
theorem dX3_copyFrom_91 : decode cX3_copyFrom 91 = .ok (.iload_n 2, 1) := by decide +kernel
theorem dX3_copyFrom_92 : decode cX3_copyFrom 92 = .ok (.iconst 4, 1) := by decide +kernel
theorem dX3_copyFrom_93 : decode cX3_copyFrom 93 = .ok (.if_icmp .ge 33, 3) := by decide +kernel
theorem dX3_copyFrom_96 : decode cX3_copyFrom 96 = .ok (.aload_n 0, 1) := by decide +kernel
theorem dX3_copyFrom_97 : decode cX3_copyFrom 97 = .ok (.getfield 22, 3) := by decide +kernel
theorem dX3_copyFrom_100 : decode cX3_copyFrom 100 = .ok (.iload_n 2, 1) := by decide +kernel
theorem dX3_copyFrom_101 : decode cX3_copyFrom 101 = .ok (.aload_n 1, 1) := by decide +kernel
theorem dX3_copyFrom_102 : decode cX3_copyFrom 102 = .ok (.getfield 22, 3) := by decide +kernel
theorem dX3_copyFrom_105 : decode cX3_copyFrom 105 = .ok (.iload_n 2, 1) := by decide +kernel
theorem dX3_copyFrom_106 : decode cX3_copyFrom 106 = .ok (.iaload, 1) := by decide +kernel
theorem dX3_copyFrom_107 : decode cX3_copyFrom 107 = .ok (.iastore, 1) := by decide +kernel
theorem dX3_copyFrom_108 : decode cX3_copyFrom 108 = .ok (.aload_n 0, 1) := by decide +kernel
theorem dX3_copyFrom_109 : decode cX3_copyFrom 109 = .ok (.getfield 25, 3) := by decide +kernel
theorem dX3_copyFrom_112 : decode cX3_copyFrom 112 = .ok (.iload_n 2, 1) := by decide +kernel
theorem dX3_copyFrom_113 : decode cX3_copyFrom 113 = .ok (.aload_n 1, 1) := by decide +kernel
theorem dX3_copyFrom_114 : decode cX3_copyFrom 114 = .ok (.getfield 25, 3) := by decide +kernel
theorem dX3_copyFrom_117 : decode cX3_copyFrom 117 = .ok (.iload_n 2, 1) := by decide +kernel
theorem dX3_copyFrom_118 : decode cX3_copyFrom 118 = .ok (.baload, 1) := by decide +kernel
theorem dX3_copyFrom_119 : decode cX3_copyFrom 119 = .ok (.bastore, 1) := by decide +kernel
theorem dX3_copyFrom_120 : decode cX3_copyFrom 120 = .ok (.iinc 2 1, 3) := by decide +kernel
theorem dX3_copyFrom_123 : decode cX3_copyFrom 123 = .ok (.goto (-40), 3) := by decide +kernel
theorem dX3_copyFrom_126 : decode cX3_copyFrom 126 = .ok (.return_, 1) := by decide +kernel
theorem dX3_readFrom_0 : decode cX3_readFrom 0 = .ok (.aload_n 0, 1) := by decide +kernel
theorem dX3_readFrom_1 : decode cX3_readFrom 1 = .ok (.invokevirtual 39, 3) := by decide +kernel
theorem dX3_readFrom_4 : decode cX3_readFrom 4 = .ok (.aload_n 1, 1) := by decide +kernel
theorem dX3_readFrom_5 : decode cX3_readFrom 5 = .ok (.invokevirtual 42, 3) := by decide +kernel
theorem dX3_readFrom_8 : decode cX3_readFrom 8 = .ok (.aload_n 0, 1) := by decide +kernel
theorem dX3_readFrom_9 : decode cX3_readFrom 9 = .ok (.aload_n 1, 1) := by decide +kernel
theorem dX3_readFrom_10 : decode cX3_readFrom 10 = .ok (.ldc 47, 2) := by decide +kernel
theorem dX3_readFrom_12 : decode cX3_readFrom 12 = .ok (.iconst 1, 1) := by decide +kernel
theorem dX3_readFrom_13 : decode cX3_readFrom 13 = .ok (.bipush 6, 2) := by decide +kernel
theorem dX3_readFrom_15 : decode cX3_readFrom 15 = .ok (.invokevirtual 49, 3) := by decide +kernel
theorem dX3_readFrom_18 : decode cX3_readFrom 18 = .ok (.putfield 29, 3) := by decide +kernel
theorem dX3_readFrom_21 : decode cX3_readFrom 21 = .ok (.aload_n 1, 1) := by decide +kernel
theorem dX3_readFrom_22 : decode cX3_readFrom 22 = .ok (.ldc 53, 2) := by decide +kernel
theorem dX3_readFrom_24 : decode cX3_readFrom 24 = .ok (.invokevirtual 55, 3) := by decide +kernel
theorem dX3_readFrom_27 : decode cX3_readFrom 27 = .ok (.ifCond .eq 8, 3) := by decide +kernel
theorem dX3_readFrom_30 : decode cX3_readFrom 30 = .ok (.aload_n 0, 1) := by decide +kernel
theorem dX3_readFrom_31 : decode cX3_readFrom 31 = .ok (.aload_n 1, 1) := by decide +kernel
theorem dX3_readFrom_32 : decode cX3_readFrom 32 = .ok (.invokevirtual 59, 3) := by decide +kernel
theorem dX3_readFrom_35 : decode cX3_readFrom 35 = .ok (.aload_n 1, 1) := by decide +kernel
theorem dX3_readFrom_36 : decode cX3_readFrom 36 = .ok (.ldc 63, 2) := by decide +kernel
theorem dX3_readFrom_38 : decode cX3_readFrom 38 = .ok (.invokevirtual 55, 3) := by decide +kernel
theorem dX3_readFrom_41 : decode cX3_readFrom 41 = .ok (.ifCond .eq 8, 3) := by decide +kernel
theorem dX3_readFrom_44 : decode cX3_readFrom 44 = .ok (.aload_n 0, 1) := by decide +kernel
theorem dX3_readFrom_45 : decode cX3_readFrom 45 = .ok (.aload_n 1, 1) := by decide +kernel
theorem dX3_readFrom_46 : decode cX3_readFrom 46 = .ok (.invokevirtual 65, 3) := by decide +kernel
theorem dX3_readFrom_49 : decode cX3_readFrom 49 = .ok (.aload_n 1, 1) := by decide +kernel
theorem dX3_readFrom_50 : decode cX3_readFrom 50 = .ok (.invokevirtual 68, 3) := by decide +kernel
theorem dX3_readFrom_53 : decode cX3_readFrom 53 = .ok (.aload_n 1, 1) := by decide +kernel
theorem dX3_readFrom_54 : decode cX3_readFrom 54 = .ok (.invokevirtual 71, 3) := by decide +kernel
theorem dX3_readFrom_57 : decode cX3_readFrom 57 = .ok (.ireturn, 1) := by decide +kernel
theorem dX3_readTerms_0 : decode cX3_readTerms 0 = .ok (.iconst 0, 1) := by decide +kernel
theorem dX3_readTerms_1 : decode cX3_readTerms 1 = .ok (.istore_n 2, 1) := by decide +kernel
theorem dX3_readTerms_2 : decode cX3_readTerms 2 = .ok (.iload_n 2, 1) := by decide +kernel
theorem dX3_readTerms_3 : decode cX3_readTerms 3 = .ok (.iconst 4, 1) := by decide +kernel
theorem dX3_readTerms_4 : decode cX3_readTerms 4 = .ok (.if_icmp .ge 60, 3) := by decide +kernel
theorem dX3_readTerms_7 : decode cX3_readTerms 7 = .ok (.aload_n 0, 1) := by decide +kernel
theorem dX3_readTerms_8 : decode cX3_readTerms 8 = .ok (.getfield 11, 3) := by decide +kernel
theorem dX3_readTerms_11 : decode cX3_readTerms 11 = .ok (.iload_n 2, 1) := by decide +kernel
theorem dX3_readTerms_12 : decode cX3_readTerms 12 = .ok (.aload_n 1, 1) := by decide +kernel
theorem dX3_readTerms_13 : decode cX3_readTerms 13 = .ok (.invokestatic 75, 3) := by decide +kernel
theorem dX3_readTerms_16 : decode cX3_readTerms 16 = .ok (.iastore, 1) := by decide +kernel
theorem dX3_readTerms_17 : decode cX3_readTerms 17 = .ok (.aload_n 0, 1) := by decide +kernel
theorem dX3_readTerms_18 : decode cX3_readTerms 18 = .ok (.getfield 15, 3) := by decide +kernel
theorem dX3_readTerms_21 : decode cX3_readTerms 21 = .ok (.iload_n 2, 1) := by decide +kernel
theorem dX3_readTerms_22 : decode cX3_readTerms 22 = .ok (.aload_n 1, 1) := by decide +kernel
theorem dX3_readTerms_23 : decode cX3_readTerms 23 = .ok (.invokestatic 79, 3) := by decide +kernel
theorem dX3_readTerms_26 : decode cX3_readTerms 26 = .ok (.castore, 1) := by decide +kernel
theorem dX3_readTerms_27 : decode cX3_readTerms 27 = .ok (.aload_n 0, 1) := by decide +kernel
theorem dX3_readTerms_28 : decode cX3_readTerms 28 = .ok (.getfield 19, 3) := by decide +kernel
theorem dX3_readTerms_31 : decode cX3_readTerms 31 = .ok (.iload_n 2, 1) := by decide +kernel
theorem dX3_readTerms_32 : decode cX3_readTerms 32 = .ok (.aload_n 1, 1) := by decide +kernel
theorem dX3_readTerms_33 : decode cX3_readTerms 33 = .ok (.iconst 0, 1) := by decide +kernel
theorem dX3_readTerms_34 : decode cX3_readTerms 34 = .ok (.sipush 999, 3) := by decide +kernel
theorem dX3_readTerms_37 : decode cX3_readTerms 37 = .ok (.invokevirtual 83, 3) := by decide +kernel
theorem dX3_readTerms_40 : decode cX3_readTerms 40 = .ok (.iastore, 1) := by decide +kernel
theorem dX3_readTerms_41 : decode cX3_readTerms 41 = .ok (.aload_n 0, 1) := by decide +kernel
theorem dX3_readTerms_42 : decode cX3_readTerms 42 = .ok (.iload_n 2, 1) := by decide +kernel
theorem dX3_readTerms_43 : decode cX3_readTerms 43 = .ok (.iconst 1, 1) := by decide +kernel
theorem dX3_readTerms_44 : decode cX3_readTerms 44 = .ok (.iadd, 1) := by decide +kernel
theorem dX3_readTerms_45 : decode cX3_readTerms 45 = .ok (.putfield 33, 3) := by decide +kernel
theorem dX3_readTerms_48 : decode cX3_readTerms 48 = .ok (.aload_n 1, 1) := by decide +kernel
theorem dX3_readTerms_49 : decode cX3_readTerms 49 = .ok (.ldc 87, 2) := by decide +kernel
theorem dX3_readTerms_51 : decode cX3_readTerms 51 = .ok (.invokevirtual 55, 3) := by decide +kernel
theorem dX3_readTerms_54 : decode cX3_readTerms 54 = .ok (.ifCond .ne 4, 3) := by decide +kernel
theorem dX3_readTerms_57 : decode cX3_readTerms 57 = .ok (.return_, 1) := by decide +kernel
theorem dX3_readTerms_58 : decode cX3_readTerms 58 = .ok (.iinc 2 1, 3) := by decide +kernel
theorem dX3_readTerms_61 : decode cX3_readTerms 61 = .ok (.goto (-59), 3) := by decide +kernel
theorem dX3_readTerms_64 : decode cX3_readTerms 64 = .ok (.aload_n 1, 1) := by decide +kernel
theorem dX3_readTerms_65 : decode cX3_readTerms 65 = .ok (.invokevirtual 89, 3) := by decide +kernel
theorem dX3_readTerms_68 : decode cX3_readTerms 68 = .ok (.return_, 1) := by decide +kernel
theorem dX3_readKeys_0 : decode cX3_readKeys 0 = .ok (.aload_n 1, 1) := by decide +kernel
theorem dX3_readKeys_1 : decode cX3_readKeys 1 = .ok (.ldc 92, 2) := by decide +kernel
theorem dX3_readKeys_3 : decode cX3_readKeys 3 = .ok (.invokevirtual 55, 3) := by decide +kernel
theorem dX3_readKeys_6 : decode cX3_readKeys 6 = .ok (.ifCond .ne 7, 3) := by decide +kernel
theorem dX3_readKeys_9 : decode cX3_readKeys 9 = .ok (.aload_n 1, 1) := by decide +kernel
theorem dX3_readKeys_10 : decode cX3_readKeys 10 = .ok (.invokevirtual 89, 3) := by decide +kernel
theorem dX3_readKeys_13 : decode cX3_readKeys 13 = .ok (.iconst 0, 1) := by decide +kernel
theorem dX3_readKeys_14 : decode cX3_readKeys 14 = .ok (.istore_n 2, 1) := by decide +kernel
theorem dX3_readKeys_15 : decode cX3_readKeys 15 = .ok (.iload_n 2, 1) := by decide +kernel
theorem dX3_readKeys_16 : decode cX3_readKeys 16 = .ok (.iconst 4, 1) := by decide +kernel
theorem dX3_readKeys_17 : decode cX3_readKeys 17 = .ok (.if_icmp .ge 48, 3) := by decide +kernel
theorem dX3_readKeys_20 : decode cX3_readKeys 20 = .ok (.aload_n 0, 1) := by decide +kernel
theorem dX3_readKeys_21 : decode cX3_readKeys 21 = .ok (.getfield 22, 3) := by decide +kernel
theorem dX3_readKeys_24 : decode cX3_readKeys 24 = .ok (.iload_n 2, 1) := by decide +kernel
theorem dX3_readKeys_25 : decode cX3_readKeys 25 = .ok (.aload_n 1, 1) := by decide +kernel
theorem dX3_readKeys_26 : decode cX3_readKeys 26 = .ok (.invokestatic 75, 3) := by decide +kernel
theorem dX3_readKeys_29 : decode cX3_readKeys 29 = .ok (.iastore, 1) := by decide +kernel
theorem dX3_readKeys_30 : decode cX3_readKeys 30 = .ok (.aload_n 0, 1) := by decide +kernel
theorem dX3_readKeys_31 : decode cX3_readKeys 31 = .ok (.getfield 25, 3) := by decide +kernel
theorem dX3_readKeys_34 : decode cX3_readKeys 34 = .ok (.iload_n 2, 1) := by decide +kernel
theorem dX3_readKeys_35 : decode cX3_readKeys 35 = .ok (.aload_n 1, 1) := by decide +kernel
theorem dX3_readKeys_36 : decode cX3_readKeys 36 = .ok (.ldc 94, 2) := by decide +kernel
theorem dX3_readKeys_38 : decode cX3_readKeys 38 = .ok (.invokevirtual 55, 3) := by decide +kernel
theorem dX3_readKeys_41 : decode cX3_readKeys 41 = .ok (.bastore, 1) := by decide +kernel
theorem dX3_readKeys_42 : decode cX3_readKeys 42 = .ok (.aload_n 0, 1) := by decide +kernel
theorem dX3_readKeys_43 : decode cX3_readKeys 43 = .ok (.iload_n 2, 1) := by decide +kernel
theorem dX3_readKeys_44 : decode cX3_readKeys 44 = .ok (.iconst 1, 1) := by decide +kernel
theorem dX3_readKeys_45 : decode cX3_readKeys 45 = .ok (.iadd, 1) := by decide +kernel
theorem dX3_readKeys_46 : decode cX3_readKeys 46 = .ok (.putfield 36, 3) := by decide +kernel
theorem dX3_readKeys_49 : decode cX3_readKeys 49 = .ok (.aload_n 1, 1) := by decide +kernel
theorem dX3_readKeys_50 : decode cX3_readKeys 50 = .ok (.bipush 44, 2) := by decide +kernel
theorem dX3_readKeys_52 : decode cX3_readKeys 52 = .ok (.invokevirtual 96, 3) := by decide +kernel
theorem dX3_readKeys_55 : decode cX3_readKeys 55 = .ok (.ifCond .ne 4, 3) := by decide +kernel
theorem dX3_readKeys_58 : decode cX3_readKeys 58 = .ok (.return_, 1) := by decide +kernel
theorem dX3_readKeys_59 : decode cX3_readKeys 59 = .ok (.iinc 2 1, 3) := by decide +kernel
theorem dX3_readKeys_62 : decode cX3_readKeys 62 = .ok (.goto (-47), 3) := by decide +kernel
theorem dX3_readKeys_65 : decode cX3_readKeys 65 = .ok (.aload_n 1, 1) := by decide +kernel
theorem dX3_readKeys_66 : decode cX3_readKeys 66 = .ok (.invokevirtual 89, 3) := by decide +kernel
theorem dX3_readKeys_69 : decode cX3_readKeys 69 = .ok (.return_, 1) := by decide +kernel
theorem dX3_readSign_0 : decode cX3_readSign 0 = .ok (.aload_n 0, 1) := by decide +kernel
theorem dX3_readSign_1 : decode cX3_readSign 1 = .ok (.bipush 61, 2) := by decide +kernel
theorem dX3_readSign_3 : decode cX3_readSign 3 = .ok (.invokevirtual 96, 3) := by decide +kernel
theorem dX3_readSign_6 : decode cX3_readSign 6 = .ok (.ifCond .eq 6, 3) := by decide +kernel
theorem dX3_readSign_9 : decode cX3_readSign 9 = .ok (.bipush 61, 2) := by decide +kernel
theorem dX3_readSign_11 : decode cX3_readSign 11 = .ok (.ireturn, 1) := by decide +kernel
theorem dX3_readSign_12 : decode cX3_readSign 12 = .ok (.aload_n 0, 1) := by decide +kernel
theorem dX3_readSign_13 : decode cX3_readSign 13 = .ok (.bipush 33, 2) := by decide +kernel
theorem dX3_readSign_15 : decode cX3_readSign 15 = .ok (.invokevirtual 96, 3) := by decide +kernel
theorem dX3_readSign_18 : decode cX3_readSign 18 = .ok (.ifCond .eq 6, 3) := by decide +kernel
theorem dX3_readSign_21 : decode cX3_readSign 21 = .ok (.bipush 33, 2) := by decide +kernel
theorem dX3_readSign_23 : decode cX3_readSign 23 = .ok (.ireturn, 1) := by decide +kernel
theorem dX3_readSign_24 : decode cX3_readSign 24 = .ok (.aload_n 0, 1) := by decide +kernel
theorem dX3_readSign_25 : decode cX3_readSign 25 = .ok (.bipush 60, 2) := by decide +kernel
theorem dX3_readSign_27 : decode cX3_readSign 27 = .ok (.invokevirtual 96, 3) := by decide +kernel
theorem dX3_readSign_30 : decode cX3_readSign 30 = .ok (.ifCond .eq 6, 3) := by decide +kernel
theorem dX3_readSign_33 : decode cX3_readSign 33 = .ok (.bipush 60, 2) := by decide +kernel
theorem dX3_readSign_35 : decode cX3_readSign 35 = .ok (.ireturn, 1) := by decide +kernel
theorem dX3_readSign_36 : decode cX3_readSign 36 = .ok (.aload_n 0, 1) := by decide +kernel
theorem dX3_readSign_37 : decode cX3_readSign 37 = .ok (.bipush 62, 2) := by decide +kernel
theorem dX3_readSign_39 : decode cX3_readSign 39 = .ok (.invokevirtual 96, 3) := by decide +kernel
theorem dX3_readSign_42 : decode cX3_readSign 42 = .ok (.ifCond .ne 7, 3) := by decide +kernel
theorem dX3_readSign_45 : decode cX3_readSign 45 = .ok (.aload_n 0, 1) := by decide +kernel
theorem dX3_readSign_46 : decode cX3_readSign 46 = .ok (.invokevirtual 89, 3) := by decide +kernel
theorem dX3_readSign_49 : decode cX3_readSign 49 = .ok (.bipush 62, 2) := by decide +kernel
theorem dX3_readSign_51 : decode cX3_readSign 51 = .ok (.ireturn, 1) := by decide +kernel
theorem dX3_readColumn_0 : decode cX3_readColumn 0 = .ok (.aload_n 0, 1) := by decide +kernel
theorem dX3_readColumn_1 : decode cX3_readColumn 1 = .ok (.ldc 100, 2) := by decide +kernel
theorem dX3_readColumn_3 : decode cX3_readColumn 3 = .ok (.invokevirtual 55, 3) := by decide +kernel
theorem dX3_readColumn_6 : decode cX3_readColumn 6 = .ok (.ifCond .eq 5, 3) := by decide +kernel
theorem dX3_readColumn_9 : decode cX3_readColumn 9 = .ok (.iconst 0, 1) := by decide +kernel
theorem dX3_readColumn_10 : decode cX3_readColumn 10 = .ok (.ireturn, 1) := by decide +kernel
theorem dX3_readColumn_11 : decode cX3_readColumn 11 = .ok (.aload_n 0, 1) := by decide +kernel
theorem dX3_readColumn_12 : decode cX3_readColumn 12 = .ok (.ldc 101, 2) := by decide +kernel
theorem dX3_readColumn_14 : decode cX3_readColumn 14 = .ok (.invokevirtual 55, 3) := by decide +kernel
theorem dX3_readColumn_17 : decode cX3_readColumn 17 = .ok (.ifCond .eq 5, 3) := by decide +kernel
theorem dX3_readColumn_20 : decode cX3_readColumn 20 = .ok (.iconst 1, 1) := by decide +kernel
theorem dX3_readColumn_21 : decode cX3_readColumn 21 = .ok (.ireturn, 1) := by decide +kernel
theorem dX3_readColumn_22 : decode cX3_readColumn 22 = .ok (.aload_n 0, 1) := by decide +kernel
theorem dX3_readColumn_23 : decode cX3_readColumn 23 = .ok (.ldc 103, 2) := by decide +kernel
theorem dX3_readColumn_25 : decode cX3_readColumn 25 = .ok (.invokevirtual 55, 3) := by decide +kernel
theorem dX3_readColumn_28 : decode cX3_readColumn 28 = .ok (.ifCond .eq 5, 3) := by decide +kernel
theorem dX3_readColumn_31 : decode cX3_readColumn 31 = .ok (.iconst 2, 1) := by decide +kernel
theorem dX3_readColumn_32 : decode cX3_readColumn 32 = .ok (.ireturn, 1) := by decide +kernel
theorem dX3_readColumn_33 : decode cX3_readColumn 33 = .ok (.aload_n 0, 1) := by decide +kernel
theorem dX3_readColumn_34 : decode cX3_readColumn 34 = .ok (.ldc 105, 2) := by decide +kernel
theorem dX3_readColumn_36 : decode cX3_readColumn 36 = .ok (.invokevirtual 55, 3) := by decide +kernel
theorem dX3_readColumn_39 : decode cX3_readColumn 39 = .ok (.ifCond .eq 5, 3) := by decide +kernel
theorem dX3_readColumn_42 : decode cX3_readColumn 42 = .ok (.iconst 3, 1) := by decide +kernel
theorem dX3_readColumn_43 : decode cX3_readColumn 43 = .ok (.ireturn, 1) := by decide +kernel
theorem dX3_readColumn_44 : decode cX3_readColumn 44 = .ok (.aload_n 0, 1) := by decide +kernel
theorem dX3_readColumn_45 : decode cX3_readColumn 45 = .ok (.ldc 107, 2) := by decide +kernel
theorem dX3_readColumn_47 : decode cX3_readColumn 47 = .ok (.invokevirtual 55, 3) := by decide +kernel
theorem dX3_readColumn_50 : decode cX3_readColumn 50 = .ok (.ifCond .eq 5, 3) := by decide +kernel
theorem dX3_readColumn_53 : decode cX3_readColumn 53 = .ok (.iconst 4, 1) := by decide +kernel
theorem dX3_readColumn_54 : decode cX3_readColumn 54 = .ok (.ireturn, 1) := by decide +kernel
theorem dX3_readColumn_55 : decode cX3_readColumn 55 = .ok (.aload_n 0, 1) := by decide +kernel
theorem dX3_readColumn_56 : decode cX3_readColumn 56 = .ok (.ldc 109, 2) := by decide +kernel
theorem dX3_readColumn_58 : decode cX3_readColumn 58 = .ok (.invokevirtual 55, 3) := by decide +kernel
theorem dX3_readColumn_61 : decode cX3_readColumn 61 = .ok (.ifCond .eq 5, 3) := by decide +kernel
theorem dX3_readColumn_64 : decode cX3_readColumn 64 = .ok (.iconst 5, 1) := by decide +kernel
theorem dX3_readColumn_65 : decode cX3_readColumn 65 = .ok (.ireturn, 1) := by decide +kernel
theorem dX3_readColumn_66 : decode cX3_readColumn 66 = .ok (.aload_n 0, 1) := by decide +kernel
theorem dX3_readColumn_67 : decode cX3_readColumn 67 = .ok (.ldc 111, 2) := by decide +kernel
theorem dX3_readColumn_69 : decode cX3_readColumn 69 = .ok (.invokevirtual 55, 3) := by decide +kernel
theorem dX3_readColumn_72 : decode cX3_readColumn 72 = .ok (.ifCond .eq 6, 3) := by decide +kernel
theorem dX3_readColumn_75 : decode cX3_readColumn 75 = .ok (.bipush 6, 2) := by decide +kernel
theorem dX3_readColumn_77 : decode cX3_readColumn 77 = .ok (.ireturn, 1) := by decide +kernel
theorem dX3_readColumn_78 : decode cX3_readColumn 78 = .ok (.aload_n 0, 1) := by decide +kernel
theorem dX3_readColumn_79 : decode cX3_readColumn 79 = .ok (.ldc 113, 2) := by decide +kernel
theorem dX3_readColumn_81 : decode cX3_readColumn 81 = .ok (.invokevirtual 55, 3) := by decide +kernel
theorem dX3_readColumn_84 : decode cX3_readColumn 84 = .ok (.ifCond .ne 7, 3) := by decide +kernel
theorem dX3_readColumn_87 : decode cX3_readColumn 87 = .ok (.aload_n 0, 1) := by decide +kernel
theorem dX3_readColumn_88 : decode cX3_readColumn 88 = .ok (.invokevirtual 89, 3) := by decide +kernel
theorem dX3_readColumn_91 : decode cX3_readColumn 91 = .ok (.bipush 7, 2) := by decide +kernel
theorem dX3_readColumn_93 : decode cX3_readColumn 93 = .ok (.ireturn, 1) := by decide +kernel
theorem dX3_fits_0 : decode cX3_fits 0 = .ok (.iconst 0, 1) := by decide +kernel
theorem dX3_fits_1 : decode cX3_fits 1 = .ok (.istore 4, 2) := by decide +kernel
theorem dX3_fits_3 : decode cX3_fits 3 = .ok (.iload 4, 2) := by decide +kernel
theorem dX3_fits_5 : decode cX3_fits 5 = .ok (.aload_n 0, 1) := by decide +kernel
theorem dX3_fits_6 : decode cX3_fits 6 = .ok (.getfield 33, 3) := by decide +kernel
theorem dX3_fits_9 : decode cX3_fits 9 = .ok (.if_icmp .ge 54, 3) := by decide +kernel
theorem dX3_fits_12 : decode cX3_fits 12 = .ok (.iload 4, 2) := by decide +kernel
theorem dX3_fits_14 : decode cX3_fits 14 = .ok (.iconst 4, 1) := by decide +kernel
theorem dX3_fits_15 : decode cX3_fits 15 = .ok (.if_icmp .ge 48, 3) := by decide +kernel
theorem dX3_fits_18 : decode cX3_fits 18 = .ok (.aload_n 0, 1) := by decide +kernel
theorem dX3_fits_19 : decode cX3_fits 19 = .ok (.getfield 11, 3) := by decide +kernel
theorem dX3_fits_22 : decode cX3_fits 22 = .ok (.iload 4, 2) := by decide +kernel
theorem dX3_fits_24 : decode cX3_fits 24 = .ok (.iaload, 1) := by decide +kernel
theorem dX3_fits_25 : decode cX3_fits 25 = .ok (.aload_n 1, 1) := by decide +kernel
theorem dX3_fits_26 : decode cX3_fits 26 = .ok (.aload_n 2, 1) := by decide +kernel
theorem dX3_fits_27 : decode cX3_fits 27 = .ok (.iload_n 3, 1) := by decide +kernel
theorem dX3_fits_28 : decode cX3_fits 28 = .ok (.invokestatic 115, 3) := by decide +kernel
theorem dX3_fits_31 : decode cX3_fits 31 = .ok (.istore 5, 2) := by decide +kernel
theorem dX3_fits_33 : decode cX3_fits 33 = .ok (.iload 5, 2) := by decide +kernel
theorem dX3_fits_35 : decode cX3_fits 35 = .ok (.aload_n 0, 1) := by decide +kernel
theorem dX3_fits_36 : decode cX3_fits 36 = .ok (.getfield 15, 3) := by decide +kernel
theorem dX3_fits_39 : decode cX3_fits 39 = .ok (.iload 4, 2) := by decide +kernel
theorem dX3_fits_41 : decode cX3_fits 41 = .ok (.caload, 1) := by decide +kernel
theorem dX3_fits_42 : decode cX3_fits 42 = .ok (.aload_n 0, 1) := by decide +kernel
theorem dX3_fits_43 : decode cX3_fits 43 = .ok (.getfield 19, 3) := by decide +kernel
theorem dX3_fits_46 : decode cX3_fits 46 = .ok (.iload 4, 2) := by decide +kernel
theorem dX3_fits_48 : decode cX3_fits 48 = .ok (.iaload, 1) := by decide +kernel
theorem dX3_fits_49 : decode cX3_fits 49 = .ok (.invokestatic 119, 3) := by decide +kernel
theorem dX3_fits_52 : decode cX3_fits 52 = .ok (.ifCond .ne 5, 3) := by decide +kernel
theorem dX3_fits_55 : decode cX3_fits 55 = .ok (.iconst 0, 1) := by decide +kernel
theorem dX3_fits_56 : decode cX3_fits 56 = .ok (.ireturn, 1) := by decide +kernel
theorem dX3_fits_57 : decode cX3_fits 57 = .ok (.iinc 4 1, 3) := by decide +kernel
theorem dX3_fits_60 : decode cX3_fits 60 = .ok (.goto (-57), 3) := by decide +kernel
theorem dX3_fits_63 : decode cX3_fits 63 = .ok (.iconst 1, 1) := by decide +kernel
theorem dX3_fits_64 : decode cX3_fits 64 = .ok (.ireturn, 1) := by decide +kernel
theorem dX3_isSo_0 : decode cX3_isSo 0 = .ok (.iload_n 1, 1) := by decide +kernel
theorem dX3_isSo_1 : decode cX3_isSo 1 = .ok (.bipush 61, 2) := by decide +kernel
theorem dX3_isSo_3 : decode cX3_isSo 3 = .ok (.if_icmp .ne 14, 3) := by decide +kernel
theorem dX3_isSo_6 : decode cX3_isSo 6 = .ok (.iload_n 0, 1) := by decide +kernel
theorem dX3_isSo_7 : decode cX3_isSo 7 = .ok (.iload_n 2, 1) := by decide +kernel
theorem dX3_isSo_8 : decode cX3_isSo 8 = .ok (.if_icmp .ne 7, 3) := by decide +kernel
theorem dX3_isSo_11 : decode cX3_isSo 11 = .ok (.iconst 1, 1) := by decide +kernel
theorem dX3_isSo_12 : decode cX3_isSo 12 = .ok (.goto 4, 3) := by decide +kernel
theorem dX3_isSo_15 : decode cX3_isSo 15 = .ok (.iconst 0, 1) := by decide +kernel
theorem dX3_isSo_16 : decode cX3_isSo 16 = .ok (.ireturn, 1) := by decide +kernel
theorem dX3_isSo_17 : decode cX3_isSo 17 = .ok (.iload_n 1, 1) := by decide +kernel
theorem dX3_isSo_18 : decode cX3_isSo 18 = .ok (.bipush 33, 2) := by decide +kernel
theorem dX3_isSo_20 : decode cX3_isSo 20 = .ok (.if_icmp .ne 14, 3) := by decide +kernel
theorem dX3_isSo_23 : decode cX3_isSo 23 = .ok (.iload_n 0, 1) := by decide +kernel
theorem dX3_isSo_24 : decode cX3_isSo 24 = .ok (.iload_n 2, 1) := by decide +kernel
theorem dX3_isSo_25 : decode cX3_isSo 25 = .ok (.if_icmp .eq 7, 3) := by decide +kernel
theorem dX3_isSo_28 : decode cX3_isSo 28 = .ok (.iconst 1, 1) := by decide +kernel
theorem dX3_isSo_29 : decode cX3_isSo 29 = .ok (.goto 4, 3) := by decide +kernel
theorem dX3_isSo_32 : decode cX3_isSo 32 = .ok (.iconst 0, 1) := by decide +kernel
theorem dX3_isSo_33 : decode cX3_isSo 33 = .ok (.ireturn, 1) := by decide +kernel
theorem dX3_isSo_34 : decode cX3_isSo 34 = .ok (.iload_n 1, 1) := by decide +kernel
theorem dX3_isSo_35 : decode cX3_isSo 35 = .ok (.bipush 60, 2) := by decide +kernel
theorem dX3_isSo_37 : decode cX3_isSo 37 = .ok (.if_icmp .ne 16, 3) := by decide +kernel
theorem dX3_isSo_40 : decode cX3_isSo 40 = .ok (.iload_n 0, 1) := by decide +kernel
theorem dX3_isSo_41 : decode cX3_isSo 41 = .ok (.iload_n 2, 1) := by decide +kernel
theorem dX3_isSo_42 : decode cX3_isSo 42 = .ok (.if_icmp .ge 7, 3) := by decide +kernel
theorem dX3_isSo_45 : decode cX3_isSo 45 = .ok (.iconst 1, 1) := by decide +kernel
theorem dX3_isSo_46 : decode cX3_isSo 46 = .ok (.goto 17, 3) := by decide +kernel
theorem dX3_isSo_49 : decode cX3_isSo 49 = .ok (.iconst 0, 1) := by decide +kernel
theorem dX3_isSo_50 : decode cX3_isSo 50 = .ok (.goto 13, 3) := by decide +kernel
theorem dX3_isSo_53 : decode cX3_isSo 53 = .ok (.iload_n 0, 1) := by decide +kernel
theorem dX3_isSo_54 : decode cX3_isSo 54 = .ok (.iload_n 2, 1) := by decide +kernel
theorem dX3_isSo_55 : decode cX3_isSo 55 = .ok (.if_icmp .le 7, 3) := by decide +kernel
theorem dX3_isSo_58 : decode cX3_isSo 58 = .ok (.iconst 1, 1) := by decide +kernel
theorem dX3_isSo_59 : decode cX3_isSo 59 = .ok (.goto 4, 3) := by decide +kernel
theorem dX3_isSo_62 : decode cX3_isSo 62 = .ok (.iconst 0, 1) := by decide +kernel
theorem dX3_isSo_63 : decode cX3_isSo 63 = .ok (.ireturn, 1) := by decide +kernel
theorem dX3_putsAhead_0 : decode cX3_putsAhead 0 = .ok (.iconst 0, 1) := by decide +kernel
theorem dX3_putsAhead_1 : decode cX3_putsAhead 1 = .ok (.istore 5, 2) := by decide +kernel
theorem dX3_putsAhead_3 : decode cX3_putsAhead 3 = .ok (.iload 5, 2) := by decide +kernel
theorem dX3_putsAhead_5 : decode cX3_putsAhead 5 = .ok (.aload_n 0, 1) := by decide +kernel
theorem dX3_putsAhead_6 : decode cX3_putsAhead 6 = .ok (.getfield 36, 3) := by decide +kernel
theorem dX3_putsAhead_9 : decode cX3_putsAhead 9 = .ok (.if_icmp .ge 92, 3) := by decide +kernel
theorem dX3_putsAhead_12 : decode cX3_putsAhead 12 = .ok (.iload 5, 2) := by decide +kernel
theorem dX3_putsAhead_14 : decode cX3_putsAhead 14 = .ok (.iconst 4, 1) := by decide +kernel
theorem dX3_putsAhead_15 : decode cX3_putsAhead 15 = .ok (.if_icmp .ge 86, 3) := by decide +kernel
theorem dX3_putsAhead_18 : decode cX3_putsAhead 18 = .ok (.aload_n 0, 1) := by decide +kernel
theorem dX3_putsAhead_19 : decode cX3_putsAhead 19 = .ok (.getfield 22, 3) := by decide +kernel
theorem dX3_putsAhead_22 : decode cX3_putsAhead 22 = .ok (.iload 5, 2) := by decide +kernel
theorem dX3_putsAhead_24 : decode cX3_putsAhead 24 = .ok (.iaload, 1) := by decide +kernel
theorem dX3_putsAhead_25 : decode cX3_putsAhead 25 = .ok (.aload_n 1, 1) := by decide +kernel
theorem dX3_putsAhead_26 : decode cX3_putsAhead 26 = .ok (.aload_n 2, 1) := by decide +kernel
theorem dX3_putsAhead_27 : decode cX3_putsAhead 27 = .ok (.iload 4, 2) := by decide +kernel
theorem dX3_putsAhead_29 : decode cX3_putsAhead 29 = .ok (.invokestatic 115, 3) := by decide +kernel
theorem dX3_putsAhead_32 : decode cX3_putsAhead 32 = .ok (.istore 6, 2) := by decide +kernel
theorem dX3_putsAhead_34 : decode cX3_putsAhead 34 = .ok (.aload_n 0, 1) := by decide +kernel
theorem dX3_putsAhead_35 : decode cX3_putsAhead 35 = .ok (.getfield 22, 3) := by decide +kernel
theorem dX3_putsAhead_38 : decode cX3_putsAhead 38 = .ok (.iload 5, 2) := by decide +kernel
theorem dX3_putsAhead_40 : decode cX3_putsAhead 40 = .ok (.iaload, 1) := by decide +kernel
theorem dX3_putsAhead_41 : decode cX3_putsAhead 41 = .ok (.aload_n 1, 1) := by decide +kernel
theorem dX3_putsAhead_42 : decode cX3_putsAhead 42 = .ok (.aload_n 3, 1) := by decide +kernel
theorem dX3_putsAhead_43 : decode cX3_putsAhead 43 = .ok (.iload 4, 2) := by decide +kernel
theorem dX3_putsAhead_45 : decode cX3_putsAhead 45 = .ok (.invokestatic 115, 3) := by decide +kernel
theorem dX3_putsAhead_48 : decode cX3_putsAhead 48 = .ok (.istore 7, 2) := by decide +kernel
theorem dX3_putsAhead_50 : decode cX3_putsAhead 50 = .ok (.iload 6, 2) := by decide +kernel
theorem dX3_putsAhead_52 : decode cX3_putsAhead 52 = .ok (.iload 7, 2) := by decide +kernel
theorem dX3_putsAhead_54 : decode cX3_putsAhead 54 = .ok (.if_icmp .eq 41, 3) := by decide +kernel
theorem dX3_putsAhead_57 : decode cX3_putsAhead 57 = .ok (.aload_n 0, 1) := by decide +kernel
theorem dX3_putsAhead_58 : decode cX3_putsAhead 58 = .ok (.getfield 25, 3) := by decide +kernel
theorem dX3_putsAhead_61 : decode cX3_putsAhead 61 = .ok (.iload 5, 2) := by decide +kernel
theorem dX3_putsAhead_63 : decode cX3_putsAhead 63 = .ok (.baload, 1) := by decide +kernel
theorem dX3_putsAhead_64 : decode cX3_putsAhead 64 = .ok (.ifCond .eq 18, 3) := by decide +kernel
theorem dX3_putsAhead_67 : decode cX3_putsAhead 67 = .ok (.iload 6, 2) := by decide +kernel
theorem dX3_putsAhead_69 : decode cX3_putsAhead 69 = .ok (.iload 7, 2) := by decide +kernel
theorem dX3_putsAhead_71 : decode cX3_putsAhead 71 = .ok (.if_icmp .le 7, 3) := by decide +kernel
theorem dX3_putsAhead_74 : decode cX3_putsAhead 74 = .ok (.iconst 1, 1) := by decide +kernel
theorem dX3_putsAhead_75 : decode cX3_putsAhead 75 = .ok (.goto 19, 3) := by decide +kernel
theorem dX3_putsAhead_78 : decode cX3_putsAhead 78 = .ok (.iconst 0, 1) := by decide +kernel
theorem dX3_putsAhead_79 : decode cX3_putsAhead 79 = .ok (.goto 15, 3) := by decide +kernel
theorem dX3_putsAhead_82 : decode cX3_putsAhead 82 = .ok (.iload 6, 2) := by decide +kernel
theorem dX3_putsAhead_84 : decode cX3_putsAhead 84 = .ok (.iload 7, 2) := by decide +kernel
theorem dX3_putsAhead_86 : decode cX3_putsAhead 86 = .ok (.if_icmp .ge 7, 3) := by decide +kernel
theorem dX3_putsAhead_89 : decode cX3_putsAhead 89 = .ok (.iconst 1, 1) := by decide +kernel
theorem dX3_putsAhead_90 : decode cX3_putsAhead 90 = .ok (.goto 4, 3) := by decide +kernel
theorem dX3_putsAhead_93 : decode cX3_putsAhead 93 = .ok (.iconst 0, 1) := by decide +kernel
theorem dX3_putsAhead_94 : decode cX3_putsAhead 94 = .ok (.ireturn, 1) := by decide +kernel
theorem dX3_putsAhead_95 : decode cX3_putsAhead 95 = .ok (.iinc 5 1, 3) := by decide +kernel
theorem dX3_putsAhead_98 : decode cX3_putsAhead 98 = .ok (.goto (-95), 3) := by decide +kernel
theorem dX3_putsAhead_101 : decode cX3_putsAhead 101 = .ok (.iconst 0, 1) := by decide +kernel
theorem dX3_putsAhead_102 : decode cX3_putsAhead 102 = .ok (.ireturn, 1) := by decide +kernel
theorem dX3_valueOf_0 : decode cX3_valueOf 0 = .ok (.aload_n 2, 1) := by decide +kernel
theorem dX3_valueOf_1 : decode cX3_valueOf 1 = .ok (.iload_n 3, 1) := by decide +kernel
theorem dX3_valueOf_2 : decode cX3_valueOf 2 = .ok (.invokevirtual 123, 3) := by decide +kernel
theorem dX3_valueOf_5 : decode cX3_valueOf 5 = .ok (.astore 4, 2) := by decide +kernel
theorem dX3_valueOf_7 : decode cX3_valueOf 7 = .ok (.iload_n 0, 1) := by decide +kernel
theorem dX3_valueOf_8 : decode cX3_valueOf 8 = .ok (.tableswitch 91 0 6 #[44, 49, 54, 59, 64, 70, 80], 44) := by decide +kernel
theorem dX3_valueOf_52 : decode cX3_valueOf 52 = .ok (.aload_n 2, 1) := by decide +kernel
theorem dX3_valueOf_53 : decode cX3_valueOf 53 = .ok (.getfield 129, 3) := by decide +kernel
theorem dX3_valueOf_56 : decode cX3_valueOf 56 = .ok (.ireturn, 1) := by decide +kernel
theorem dX3_valueOf_57 : decode cX3_valueOf 57 = .ok (.aload_n 2, 1) := by decide +kernel
theorem dX3_valueOf_58 : decode cX3_valueOf 58 = .ok (.getfield 131, 3) := by decide +kernel
theorem dX3_valueOf_61 : decode cX3_valueOf 61 = .ok (.ireturn, 1) := by decide +kernel
theorem dX3_valueOf_62 : decode cX3_valueOf 62 = .ok (.aload_n 2, 1) := by decide +kernel
theorem dX3_valueOf_63 : decode cX3_valueOf 63 = .ok (.getfield 133, 3) := by decide +kernel
theorem dX3_valueOf_66 : decode cX3_valueOf 66 = .ok (.ireturn, 1) := by decide +kernel
theorem dX3_valueOf_67 : decode cX3_valueOf 67 = .ok (.aload_n 2, 1) := by decide +kernel
theorem dX3_valueOf_68 : decode cX3_valueOf 68 = .ok (.getfield 135, 3) := by decide +kernel
theorem dX3_valueOf_71 : decode cX3_valueOf 71 = .ok (.ireturn, 1) := by decide +kernel
theorem dX3_valueOf_72 : decode cX3_valueOf 72 = .ok (.aload 4, 2) := by decide +kernel
theorem dX3_valueOf_74 : decode cX3_valueOf 74 = .ok (.getfield 137, 3) := by decide +kernel
theorem dX3_valueOf_77 : decode cX3_valueOf 77 = .ok (.ireturn, 1) := by decide +kernel
theorem dX3_valueOf_78 : decode cX3_valueOf 78 = .ok (.aload_n 1, 1) := by decide +kernel
theorem dX3_valueOf_79 : decode cX3_valueOf 79 = .ok (.getfield 141, 3) := by decide +kernel
theorem dX3_valueOf_82 : decode cX3_valueOf 82 = .ok (.aload_n 2, 1) := by decide +kernel
theorem dX3_valueOf_83 : decode cX3_valueOf 83 = .ok (.getfield 146, 3) := by decide +kernel
theorem dX3_valueOf_86 : decode cX3_valueOf 86 = .ok (.isub, 1) := by decide +kernel
theorem dX3_valueOf_87 : decode cX3_valueOf 87 = .ok (.ireturn, 1) := by decide +kernel
theorem dX3_valueOf_88 : decode cX3_valueOf 88 = .ok (.aload_n 1, 1) := by decide +kernel
theorem dX3_valueOf_89 : decode cX3_valueOf 89 = .ok (.getfield 141, 3) := by decide +kernel
theorem dX3_valueOf_92 : decode cX3_valueOf 92 = .ok (.aload 4, 2) := by decide +kernel
theorem dX3_valueOf_94 : decode cX3_valueOf 94 = .ok (.getfield 149, 3) := by decide +kernel
theorem dX3_valueOf_97 : decode cX3_valueOf 97 = .ok (.isub, 1) := by decide +kernel
theorem dX3_valueOf_98 : decode cX3_valueOf 98 = .ok (.ireturn, 1) := by decide +kernel
theorem dX3_valueOf_99 : decode cX3_valueOf 99 = .ok (.aload_n 2, 1) := by decide +kernel
theorem dX3_valueOf_100 : decode cX3_valueOf 100 = .ok (.getfield 131, 3) := by decide +kernel
theorem dX3_valueOf_103 : decode cX3_valueOf 103 = .ok (.aload_n 1, 1) := by decide +kernel
theorem dX3_valueOf_104 : decode cX3_valueOf 104 = .ok (.getfield 152, 3) := by decide +kernel
theorem dX3_valueOf_107 : decode cX3_valueOf 107 = .ok (.iload_n 3, 1) := by decide +kernel
theorem dX3_valueOf_108 : decode cX3_valueOf 108 = .ok (.aaload, 1) := by decide +kernel
theorem dX3_valueOf_109 : decode cX3_valueOf 109 = .ok (.getfield 156, 3) := by decide +kernel
theorem dX3_valueOf_112 : decode cX3_valueOf 112 = .ok (.isub, 1) := by decide +kernel
theorem dX3_valueOf_113 : decode cX3_valueOf 113 = .ok (.iconst 1, 1) := by decide +kernel
theorem dX3_valueOf_114 : decode cX3_valueOf 114 = .ok (.isub, 1) := by decide +kernel
theorem dX3_valueOf_115 : decode cX3_valueOf 115 = .ok (.bipush 6, 2) := by decide +kernel
theorem dX3_valueOf_117 : decode cX3_valueOf 117 = .ok (.invokestatic 161, 3) := by decide +kernel
theorem dX3_valueOf_120 : decode cX3_valueOf 120 = .ok (.ireturn, 1) := by decide +kernel
theorem dX4_init_0 : decode cX4_init 0 = .ok (.aload_n 0, 1) := by decide +kernel
theorem dX4_init_1 : decode cX4_init 1 = .ok (.invokespecial 3, 3) := by decide +kernel
theorem dX4_init_4 : decode cX4_init 4 = .ok (.aload_n 0, 1) := by decide +kernel
theorem dX4_init_5 : decode cX4_init 5 = .ok (.iconst 1, 1) := by decide +kernel
theorem dX4_init_6 : decode cX4_init 6 = .ok (.putfield 9, 3) := by decide +kernel
theorem dX4_init_9 : decode cX4_init 9 = .ok (.return_, 1) := by decide +kernel
theorem dX4_copyFrom_0 : decode cX4_copyFrom 0 = .ok (.aload_n 0, 1) := by decide +kernel
theorem dX4_copyFrom_1 : decode cX4_copyFrom 1 = .ok (.aload_n 1, 1) := by decide +kernel
theorem dX4_copyFrom_2 : decode cX4_copyFrom 2 = .ok (.getfield 9, 3) := by decide +kernel
theorem dX4_copyFrom_5 : decode cX4_copyFrom 5 = .ok (.putfield 9, 3) := by decide +kernel
theorem dX4_copyFrom_8 : decode cX4_copyFrom 8 = .ok (.aload_n 0, 1) := by decide +kernel
theorem dX4_copyFrom_9 : decode cX4_copyFrom 9 = .ok (.aload_n 1, 1) := by decide +kernel
theorem dX4_copyFrom_10 : decode cX4_copyFrom 10 = .ok (.getfield 15, 3) := by decide +kernel
theorem dX4_copyFrom_13 : decode cX4_copyFrom 13 = .ok (.putfield 15, 3) := by decide +kernel
theorem dX4_copyFrom_16 : decode cX4_copyFrom 16 = .ok (.aload_n 0, 1) := by decide +kernel
theorem dX4_copyFrom_17 : decode cX4_copyFrom 17 = .ok (.aload_n 1, 1) := by decide +kernel
theorem dX4_copyFrom_18 : decode cX4_copyFrom 18 = .ok (.getfield 18, 3) := by decide +kernel
theorem dX4_copyFrom_21 : decode cX4_copyFrom 21 = .ok (.putfield 18, 3) := by decide +kernel
theorem dX4_copyFrom_24 : decode cX4_copyFrom 24 = .ok (.aload_n 0, 1) := by decide +kernel
theorem dX4_copyFrom_25 : decode cX4_copyFrom 25 = .ok (.aload_n 1, 1) := by decide +kernel
theorem dX4_copyFrom_26 : decode cX4_copyFrom 26 = .ok (.getfield 21, 3) := by decide +kernel
theorem dX4_copyFrom_29 : decode cX4_copyFrom 29 = .ok (.putfield 21, 3) := by decide +kernel
theorem dX4_copyFrom_32 : decode cX4_copyFrom 32 = .ok (.aload_n 0, 1) := by decide +kernel
theorem dX4_copyFrom_33 : decode cX4_copyFrom 33 = .ok (.aload_n 1, 1) := by decide +kernel
theorem dX4_copyFrom_34 : decode cX4_copyFrom 34 = .ok (.getfield 24, 3) := by decide +kernel
theorem dX4_copyFrom_37 : decode cX4_copyFrom 37 = .ok (.putfield 24, 3) := by decide +kernel
theorem dX4_copyFrom_40 : decode cX4_copyFrom 40 = .ok (.aload_n 0, 1) := by decide +kernel
theorem dX4_copyFrom_41 : decode cX4_copyFrom 41 = .ok (.aload_n 1, 1) := by decide +kernel
theorem dX4_copyFrom_42 : decode cX4_copyFrom 42 = .ok (.getfield 27, 3) := by decide +kernel
theorem dX4_copyFrom_45 : decode cX4_copyFrom 45 = .ok (.putfield 27, 3) := by decide +kernel
theorem dX4_copyFrom_48 : decode cX4_copyFrom 48 = .ok (.aload_n 0, 1) := by decide +kernel
theorem dX4_copyFrom_49 : decode cX4_copyFrom 49 = .ok (.aload_n 1, 1) := by decide +kernel
theorem dX4_copyFrom_50 : decode cX4_copyFrom 50 = .ok (.getfield 30, 3) := by decide +kernel
theorem dX4_copyFrom_53 : decode cX4_copyFrom 53 = .ok (.putfield 30, 3) := by decide +kernel
theorem dX4_copyFrom_56 : decode cX4_copyFrom 56 = .ok (.aload_n 0, 1) := by decide +kernel
theorem dX4_copyFrom_57 : decode cX4_copyFrom 57 = .ok (.aload_n 1, 1) := by decide +kernel
theorem dX4_copyFrom_58 : decode cX4_copyFrom 58 = .ok (.getfield 33, 3) := by decide +kernel
theorem dX4_copyFrom_61 : decode cX4_copyFrom 61 = .ok (.putfield 33, 3) := by decide +kernel
theorem dX4_copyFrom_64 : decode cX4_copyFrom 64 = .ok (.return_, 1) := by decide +kernel
theorem dX4_slotOf_0 : decode cX4_slotOf 0 = .ok (.iload_n 1, 1) := by decide +kernel
theorem dX4_slotOf_1 : decode cX4_slotOf 1 = .ok (.aload_n 0, 1) := by decide +kernel
theorem dX4_slotOf_2 : decode cX4_slotOf 2 = .ok (.getfield 15, 3) := by decide +kernel
theorem dX4_slotOf_5 : decode cX4_slotOf 5 = .ok (.if_icmp .lt 11, 3) := by decide +kernel
theorem dX4_slotOf_8 : decode cX4_slotOf 8 = .ok (.aload_n 0, 1) := by decide +kernel
theorem dX4_slotOf_9 : decode cX4_slotOf 9 = .ok (.getfield 9, 3) := by decide +kernel
theorem dX4_slotOf_12 : decode cX4_slotOf 12 = .ok (.iconst 1, 1) := by decide +kernel
theorem dX4_slotOf_13 : decode cX4_slotOf 13 = .ok (.if_icmp .ge 7, 3) := by decide +kernel
theorem dX4_slotOf_16 : decode cX4_slotOf 16 = .ok (.iconst (-1), 1) := by decide +kernel
theorem dX4_slotOf_17 : decode cX4_slotOf 17 = .ok (.goto 14, 3) := by decide +kernel
theorem dX4_slotOf_20 : decode cX4_slotOf 20 = .ok (.iload_n 1, 1) := by decide +kernel
theorem dX4_slotOf_21 : decode cX4_slotOf 21 = .ok (.aload_n 0, 1) := by decide +kernel
theorem dX4_slotOf_22 : decode cX4_slotOf 22 = .ok (.getfield 15, 3) := by decide +kernel
theorem dX4_slotOf_25 : decode cX4_slotOf 25 = .ok (.isub, 1) := by decide +kernel
theorem dX4_slotOf_26 : decode cX4_slotOf 26 = .ok (.aload_n 0, 1) := by decide +kernel
theorem dX4_slotOf_27 : decode cX4_slotOf 27 = .ok (.getfield 9, 3) := by decide +kernel
theorem dX4_slotOf_30 : decode cX4_slotOf 30 = .ok (.idiv, 1) := by decide +kernel
theorem dX4_slotOf_31 : decode cX4_slotOf 31 = .ok (.ireturn, 1) := by decide +kernel
theorem dX4_timeOf_0 : decode cX4_timeOf 0 = .ok (.aload_n 0, 1) := by decide +kernel
theorem dX4_timeOf_1 : decode cX4_timeOf 1 = .ok (.getfield 15, 3) := by decide +kernel
theorem dX4_timeOf_4 : decode cX4_timeOf 4 = .ok (.iload_n 1, 1) := by decide +kernel
theorem dX4_timeOf_5 : decode cX4_timeOf 5 = .ok (.aload_n 0, 1) := by decide +kernel
theorem dX4_timeOf_6 : decode cX4_timeOf 6 = .ok (.getfield 9, 3) := by decide +kernel
theorem dX4_timeOf_9 : decode cX4_timeOf 9 = .ok (.imul, 1) := by decide +kernel
theorem dX4_timeOf_10 : decode cX4_timeOf 10 = .ok (.iadd, 1) := by decide +kernel
theorem dX4_timeOf_11 : decode cX4_timeOf 11 = .ok (.ireturn, 1) := by decide +kernel
theorem dX4_firstToFire_0 : decode cX4_firstToFire 0 = .ok (.aload_n 0, 1) := by decide +kernel
theorem dX4_firstToFire_1 : decode cX4_firstToFire 1 = .ok (.getfield 27, 3) := by decide +kernel
theorem dX4_firstToFire_4 : decode cX4_firstToFire 4 = .ok (.lookupswitch 65 #[(1, 28), (2, 43)], 28) := by decide +kernel
theorem dX4_firstToFire_32 : decode cX4_firstToFire 32 = .ok (.aload_n 0, 1) := by decide +kernel
theorem dX4_firstToFire_33 : decode cX4_firstToFire 33 = .ok (.getfield 33, 3) := by decide +kernel
theorem dX4_firstToFire_36 : decode cX4_firstToFire 36 = .ok (.iconst 1, 1) := by decide +kernel
theorem dX4_firstToFire_37 : decode cX4_firstToFire 37 = .ok (.iadd, 1) := by decide +kernel
theorem dX4_firstToFire_38 : decode cX4_firstToFire 38 = .ok (.iload_n 1, 1) := by decide +kernel
theorem dX4_firstToFire_39 : decode cX4_firstToFire 39 = .ok (.iconst 5, 1) := by decide +kernel
theorem dX4_firstToFire_40 : decode cX4_firstToFire 40 = .ok (.isub, 1) := by decide +kernel
theorem dX4_firstToFire_41 : decode cX4_firstToFire 41 = .ok (.iconst 1, 1) := by decide +kernel
theorem dX4_firstToFire_42 : decode cX4_firstToFire 42 = .ok (.iadd, 1) := by decide +kernel
theorem dX4_firstToFire_43 : decode cX4_firstToFire 43 = .ok (.invokestatic 36, 3) := by decide +kernel
theorem dX4_firstToFire_46 : decode cX4_firstToFire 46 = .ok (.ireturn, 1) := by decide +kernel
theorem dX4_firstToFire_47 : decode cX4_firstToFire 47 = .ok (.iload_n 2, 1) := by decide +kernel
theorem dX4_firstToFire_48 : decode cX4_firstToFire 48 = .ok (.aload_n 0, 1) := by decide +kernel
theorem dX4_firstToFire_49 : decode cX4_firstToFire 49 = .ok (.iload_n 1, 1) := by decide +kernel
theorem dX4_firstToFire_50 : decode cX4_firstToFire 50 = .ok (.invokevirtual 42, 3) := by decide +kernel
theorem dX4_firstToFire_53 : decode cX4_firstToFire 53 = .ok (.isub, 1) := by decide +kernel
theorem dX4_firstToFire_54 : decode cX4_firstToFire 54 = .ok (.aload_n 0, 1) := by decide +kernel
theorem dX4_firstToFire_55 : decode cX4_firstToFire 55 = .ok (.getfield 30, 3) := by decide +kernel
theorem dX4_firstToFire_58 : decode cX4_firstToFire 58 = .ok (.if_icmp .gt 7, 3) := by decide +kernel
theorem dX4_firstToFire_61 : decode cX4_firstToFire 61 = .ok (.iload_n 1, 1) := by decide +kernel
theorem dX4_firstToFire_62 : decode cX4_firstToFire 62 = .ok (.goto 6, 3) := by decide +kernel
theorem dX4_firstToFire_65 : decode cX4_firstToFire 65 = .ok (.iload_n 1, 1) := by decide +kernel
theorem dX4_firstToFire_66 : decode cX4_firstToFire 66 = .ok (.iconst 1, 1) := by decide +kernel
theorem dX4_firstToFire_67 : decode cX4_firstToFire 67 = .ok (.iadd, 1) := by decide +kernel
theorem dX4_firstToFire_68 : decode cX4_firstToFire 68 = .ok (.ireturn, 1) := by decide +kernel
theorem dX4_firstToFire_69 : decode cX4_firstToFire 69 = .ok (.iload_n 1, 1) := by decide +kernel
theorem dX4_firstToFire_70 : decode cX4_firstToFire 70 = .ok (.ireturn, 1) := by decide +kernel
theorem dX5_init_0 : decode cX5_init 0 = .ok (.aload_n 0, 1) := by decide +kernel
theorem dX5_init_1 : decode cX5_init 1 = .ok (.invokespecial 1, 3) := by decide +kernel
theorem dX5_init_4 : decode cX5_init 4 = .ok (.aload_n 0, 1) := by decide +kernel
theorem dX5_init_5 : decode cX5_init 5 = .ok (.new 7, 3) := by decide +kernel
theorem dX5_init_8 : decode cX5_init 8 = .ok (.dup, 1) := by decide +kernel
theorem dX5_init_9 : decode cX5_init 9 = .ok (.invokespecial 9, 3) := by decide +kernel
theorem dX5_init_12 : decode cX5_init 12 = .ok (.putfield 10, 3) := by decide +kernel
theorem dX5_init_15 : decode cX5_init 15 = .ok (.return_, 1) := by decide +kernel
theorem dX5_start_0 : decode cX5_start 0 = .ok (.aload_n 0, 1) := by decide +kernel
theorem dX5_start_1 : decode cX5_start 1 = .ok (.getfield 10, 3) := by decide +kernel
theorem dX5_start_4 : decode cX5_start 4 = .ok (.invokevirtual 16, 3) := by decide +kernel
theorem dX5_start_7 : decode cX5_start 7 = .ok (.aload_n 0, 1) := by decide +kernel
theorem dX5_start_8 : decode cX5_start 8 = .ok (.iload_n 1, 1) := by decide +kernel
theorem dX5_start_9 : decode cX5_start 9 = .ok (.putfield 19, 3) := by decide +kernel
theorem dX5_start_12 : decode cX5_start 12 = .ok (.aload_n 0, 1) := by decide +kernel
theorem dX5_start_13 : decode cX5_start 13 = .ok (.iconst 5, 1) := by decide +kernel
theorem dX5_start_14 : decode cX5_start 14 = .ok (.putfield 23, 3) := by decide +kernel
theorem dX5_start_17 : decode cX5_start 17 = .ok (.aload_n 0, 1) := by decide +kernel
theorem dX5_start_18 : decode cX5_start 18 = .ok (.invokevirtual 26, 3) := by decide +kernel
theorem dX5_start_21 : decode cX5_start 21 = .ok (.return_, 1) := by decide +kernel
theorem dX5_close_0 : decode cX5_close 0 = .ok (.aload_n 0, 1) := by decide +kernel
theorem dX5_close_1 : decode cX5_close 1 = .ok (.iconst 0, 1) := by decide +kernel
theorem dX5_close_2 : decode cX5_close 2 = .ok (.putfield 29, 3) := by decide +kernel
theorem dX5_close_5 : decode cX5_close 5 = .ok (.aload_n 0, 1) := by decide +kernel
theorem dX5_close_6 : decode cX5_close 6 = .ok (.iconst 0, 1) := by decide +kernel
theorem dX5_close_7 : decode cX5_close 7 = .ok (.putfield 33, 3) := by decide +kernel
theorem dX5_close_10 : decode cX5_close 10 = .ok (.return_, 1) := by decide +kernel
theorem dX5_copyFrom_0 : decode cX5_copyFrom 0 = .ok (.aload_n 0, 1) := by decide +kernel
theorem dX5_copyFrom_1 : decode cX5_copyFrom 1 = .ok (.getfield 10, 3) := by decide +kernel
theorem dX5_copyFrom_4 : decode cX5_copyFrom 4 = .ok (.aload_n 1, 1) := by decide +kernel
theorem dX5_copyFrom_5 : decode cX5_copyFrom 5 = .ok (.getfield 10, 3) := by decide +kernel
theorem dX5_copyFrom_8 : decode cX5_copyFrom 8 = .ok (.invokevirtual 36, 3) := by decide +kernel
theorem dX5_copyFrom_11 : decode cX5_copyFrom 11 = .ok (.aload_n 0, 1) := by decide +kernel
theorem dX5_copyFrom_12 : decode cX5_copyFrom 12 = .ok (.aload_n 1, 1) := by decide +kernel
theorem dX5_copyFrom_13 : decode cX5_copyFrom 13 = .ok (.getfield 19, 3) := by decide +kernel
theorem dX5_copyFrom_16 : decode cX5_copyFrom 16 = .ok (.putfield 19, 3) := by decide +kernel
theorem dX5_copyFrom_19 : decode cX5_copyFrom 19 = .ok (.aload_n 0, 1) := by decide +kernel
theorem dX5_copyFrom_20 : decode cX5_copyFrom 20 = .ok (.aload_n 1, 1) := by decide +kernel
theorem dX5_copyFrom_21 : decode cX5_copyFrom 21 = .ok (.getfield 23, 3) := by decide +kernel
theorem dX5_copyFrom_24 : decode cX5_copyFrom 24 = .ok (.putfield 23, 3) := by decide +kernel
theorem dX5_copyFrom_27 : decode cX5_copyFrom 27 = .ok (.aload_n 0, 1) := by decide +kernel
theorem dX5_copyFrom_28 : decode cX5_copyFrom 28 = .ok (.aload_n 1, 1) := by decide +kernel
theorem dX5_copyFrom_29 : decode cX5_copyFrom 29 = .ok (.getfield 29, 3) := by decide +kernel
theorem dX5_copyFrom_32 : decode cX5_copyFrom 32 = .ok (.putfield 29, 3) := by decide +kernel
theorem dX5_copyFrom_35 : decode cX5_copyFrom 35 = .ok (.aload_n 0, 1) := by decide +kernel
theorem dX5_copyFrom_36 : decode cX5_copyFrom 36 = .ok (.aload_n 1, 1) := by decide +kernel
theorem dX5_copyFrom_37 : decode cX5_copyFrom 37 = .ok (.getfield 33, 3) := by decide +kernel
theorem dX5_copyFrom_40 : decode cX5_copyFrom 40 = .ok (.putfield 33, 3) := by decide +kernel
theorem dX5_copyFrom_43 : decode cX5_copyFrom 43 = .ok (.return_, 1) := by decide +kernel
theorem dX6_init_0 : decode cX6_init 0 = .ok (.aload_n 0, 1) := by decide +kernel
theorem dX6_init_1 : decode cX6_init 1 = .ok (.invokespecial 3, 3) := by decide +kernel
theorem dX6_init_4 : decode cX6_init 4 = .ok (.aload_n 0, 1) := by decide +kernel
theorem dX6_init_5 : decode cX6_init 5 = .ok (.bipush 24, 2) := by decide +kernel
theorem dX6_init_7 : decode cX6_init 7 = .ok (.anewarray 9, 3) := by decide +kernel
theorem dX6_init_10 : decode cX6_init 10 = .ok (.putfield 11, 3) := by decide +kernel
theorem dX6_init_13 : decode cX6_init 13 = .ok (.aload_n 0, 1) := by decide +kernel
theorem dX6_init_14 : decode cX6_init 14 = .ok (.iconst 4, 1) := by decide +kernel
theorem dX6_init_15 : decode cX6_init 15 = .ok (.anewarray 17, 3) := by decide +kernel
theorem dX6_init_18 : decode cX6_init 18 = .ok (.putfield 19, 3) := by decide +kernel
theorem dX6_init_21 : decode cX6_init 21 = .ok (.aload_n 0, 1) := by decide +kernel
theorem dX6_init_22 : decode cX6_init 22 = .ok (.iconst 4, 1) := by decide +kernel
theorem dX6_init_23 : decode cX6_init 23 = .ok (.anewarray 23, 3) := by decide +kernel
theorem dX6_init_26 : decode cX6_init 26 = .ok (.putfield 25, 3) := by decide +kernel
theorem dX6_init_29 : decode cX6_init 29 = .ok (.aload_n 0, 1) := by decide +kernel
theorem dX6_init_30 : decode cX6_init 30 = .ok (.bipush 6, 2) := by decide +kernel
theorem dX6_init_32 : decode cX6_init 32 = .ok (.newarray .int, 2) := by decide +kernel
theorem dX6_init_34 : decode cX6_init 34 = .ok (.dup, 1) := by decide +kernel
theorem dX6_init_35 : decode cX6_init 35 = .ok (.iconst 0, 1) := by decide +kernel
theorem dX6_init_36 : decode cX6_init 36 = .ok (.iconst 1, 1) := by decide +kernel
theorem dX6_init_37 : decode cX6_init 37 = .ok (.iastore, 1) := by decide +kernel
theorem dX6_init_38 : decode cX6_init 38 = .ok (.dup, 1) := by decide +kernel
theorem dX6_init_39 : decode cX6_init 39 = .ok (.iconst 1, 1) := by decide +kernel
theorem dX6_init_40 : decode cX6_init 40 = .ok (.iconst 1, 1) := by decide +kernel
theorem dX6_init_41 : decode cX6_init 41 = .ok (.iastore, 1) := by decide +kernel
theorem dX6_init_42 : decode cX6_init 42 = .ok (.dup, 1) := by decide +kernel
theorem dX6_init_43 : decode cX6_init 43 = .ok (.iconst 2, 1) := by decide +kernel
theorem dX6_init_44 : decode cX6_init 44 = .ok (.iconst 1, 1) := by decide +kernel
theorem dX6_init_45 : decode cX6_init 45 = .ok (.iastore, 1) := by decide +kernel
theorem dX6_init_46 : decode cX6_init 46 = .ok (.dup, 1) := by decide +kernel
theorem dX6_init_47 : decode cX6_init 47 = .ok (.iconst 3, 1) := by decide +kernel
theorem dX6_init_48 : decode cX6_init 48 = .ok (.iconst 1, 1) := by decide +kernel
theorem dX6_init_49 : decode cX6_init 49 = .ok (.iastore, 1) := by decide +kernel
theorem dX6_init_50 : decode cX6_init 50 = .ok (.dup, 1) := by decide +kernel
theorem dX6_init_51 : decode cX6_init 51 = .ok (.iconst 4, 1) := by decide +kernel
theorem dX6_init_52 : decode cX6_init 52 = .ok (.iconst 1, 1) := by decide +kernel
theorem dX6_init_53 : decode cX6_init 53 = .ok (.iastore, 1) := by decide +kernel
theorem dX6_init_54 : decode cX6_init 54 = .ok (.dup, 1) := by decide +kernel
theorem dX6_init_55 : decode cX6_init 55 = .ok (.iconst 5, 1) := by decide +kernel
theorem dX6_init_56 : decode cX6_init 56 = .ok (.iconst 1, 1) := by decide +kernel
theorem dX6_init_57 : decode cX6_init 57 = .ok (.iastore, 1) := by decide +kernel
theorem dX6_init_58 : decode cX6_init 58 = .ok (.putfield 29, 3) := by decide +kernel
theorem dX6_init_61 : decode cX6_init 61 = .ok (.aload_n 0, 1) := by decide +kernel
theorem dX6_init_62 : decode cX6_init 62 = .ok (.iconst 5, 1) := by decide +kernel
theorem dX6_init_63 : decode cX6_init 63 = .ok (.newarray .int, 2) := by decide +kernel
theorem dX6_init_65 : decode cX6_init 65 = .ok (.dup, 1) := by decide +kernel
theorem dX6_init_66 : decode cX6_init 66 = .ok (.iconst 0, 1) := by decide +kernel
theorem dX6_init_67 : decode cX6_init 67 = .ok (.iconst 5, 1) := by decide +kernel
theorem dX6_init_68 : decode cX6_init 68 = .ok (.iastore, 1) := by decide +kernel
theorem dX6_init_69 : decode cX6_init 69 = .ok (.dup, 1) := by decide +kernel
theorem dX6_init_70 : decode cX6_init 70 = .ok (.iconst 1, 1) := by decide +kernel
theorem dX6_init_71 : decode cX6_init 71 = .ok (.iconst 1, 1) := by decide +kernel
theorem dX6_init_72 : decode cX6_init 72 = .ok (.iastore, 1) := by decide +kernel
theorem dX6_init_73 : decode cX6_init 73 = .ok (.dup, 1) := by decide +kernel
theorem dX6_init_74 : decode cX6_init 74 = .ok (.iconst 2, 1) := by decide +kernel
theorem dX6_init_75 : decode cX6_init 75 = .ok (.bipush 30, 2) := by decide +kernel
theorem dX6_init_77 : decode cX6_init 77 = .ok (.iastore, 1) := by decide +kernel
theorem dX6_init_78 : decode cX6_init 78 = .ok (.dup, 1) := by decide +kernel
theorem dX6_init_79 : decode cX6_init 79 = .ok (.iconst 3, 1) := by decide +kernel
theorem dX6_init_80 : decode cX6_init 80 = .ok (.iconst 0, 1) := by decide +kernel
theorem dX6_init_81 : decode cX6_init 81 = .ok (.iastore, 1) := by decide +kernel
theorem dX6_init_82 : decode cX6_init 82 = .ok (.dup, 1) := by decide +kernel
theorem dX6_init_83 : decode cX6_init 83 = .ok (.iconst 4, 1) := by decide +kernel
theorem dX6_init_84 : decode cX6_init 84 = .ok (.iconst 3, 1) := by decide +kernel
theorem dX6_init_85 : decode cX6_init 85 = .ok (.iastore, 1) := by decide +kernel
theorem dX6_init_86 : decode cX6_init 86 = .ok (.putfield 33, 3) := by decide +kernel
theorem dX6_init_89 : decode cX6_init 89 = .ok (.aload_n 0, 1) := by decide +kernel
theorem dX6_init_90 : decode cX6_init 90 = .ok (.new 36, 3) := by decide +kernel
theorem dX6_init_93 : decode cX6_init 93 = .ok (.dup, 1) := by decide +kernel
theorem dX6_init_94 : decode cX6_init 94 = .ok (.invokespecial 38, 3) := by decide +kernel
theorem dX6_init_97 : decode cX6_init 97 = .ok (.putfield 39, 3) := by decide +kernel
theorem dX6_init_100 : decode cX6_init 100 = .ok (.iconst 0, 1) := by decide +kernel
theorem dX6_init_101 : decode cX6_init 101 = .ok (.istore_n 1, 1) := by decide +kernel
theorem dX6_init_102 : decode cX6_init 102 = .ok (.iload_n 1, 1) := by decide +kernel
theorem dX6_init_103 : decode cX6_init 103 = .ok (.aload_n 0, 1) := by decide +kernel
theorem dX6_init_104 : decode cX6_init 104 = .ok (.getfield 11, 3) := by decide +kernel
theorem dX6_init_107 : decode cX6_init 107 = .ok (.arraylength, 1) := by decide +kernel
theorem dX6_init_108 : decode cX6_init 108 = .ok (.if_icmp .ge 22, 3) := by decide +kernel
theorem dX6_init_111 : decode cX6_init 111 = .ok (.aload_n 0, 1) := by decide +kernel
theorem dX6_init_112 : decode cX6_init 112 = .ok (.getfield 11, 3) := by decide +kernel
theorem dX6_init_115 : decode cX6_init 115 = .ok (.iload_n 1, 1) := by decide +kernel
theorem dX6_init_116 : decode cX6_init 116 = .ok (.new 9, 3) := by decide +kernel
theorem dX6_init_119 : decode cX6_init 119 = .ok (.dup, 1) := by decide +kernel
theorem dX6_init_120 : decode cX6_init 120 = .ok (.invokespecial 43, 3) := by decide +kernel
theorem dX6_init_123 : decode cX6_init 123 = .ok (.aastore, 1) := by decide +kernel
theorem dX6_init_124 : decode cX6_init 124 = .ok (.iinc 1 1, 3) := by decide +kernel
theorem dX6_init_127 : decode cX6_init 127 = .ok (.goto (-25), 3) := by decide +kernel
theorem dX6_init_130 : decode cX6_init 130 = .ok (.iconst 0, 1) := by decide +kernel
theorem dX6_init_131 : decode cX6_init 131 = .ok (.istore_n 1, 1) := by decide +kernel
theorem dX6_init_132 : decode cX6_init 132 = .ok (.iload_n 1, 1) := by decide +kernel
theorem dX6_init_133 : decode cX6_init 133 = .ok (.aload_n 0, 1) := by decide +kernel
theorem dX6_init_134 : decode cX6_init 134 = .ok (.getfield 19, 3) := by decide +kernel
theorem dX6_init_137 : decode cX6_init 137 = .ok (.arraylength, 1) := by decide +kernel
theorem dX6_init_138 : decode cX6_init 138 = .ok (.if_icmp .ge 22, 3) := by decide +kernel
theorem dX6_init_141 : decode cX6_init 141 = .ok (.aload_n 0, 1) := by decide +kernel
theorem dX6_init_142 : decode cX6_init 142 = .ok (.getfield 19, 3) := by decide +kernel
theorem dX6_init_145 : decode cX6_init 145 = .ok (.iload_n 1, 1) := by decide +kernel
theorem dX6_init_146 : decode cX6_init 146 = .ok (.new 17, 3) := by decide +kernel
theorem dX6_init_149 : decode cX6_init 149 = .ok (.dup, 1) := by decide +kernel
theorem dX6_init_150 : decode cX6_init 150 = .ok (.invokespecial 44, 3) := by decide +kernel
theorem dX6_init_153 : decode cX6_init 153 = .ok (.aastore, 1) := by decide +kernel
theorem dX6_init_154 : decode cX6_init 154 = .ok (.iinc 1 1, 3) := by decide +kernel
theorem dX6_init_157 : decode cX6_init 157 = .ok (.goto (-25), 3) := by decide +kernel
theorem dX6_init_160 : decode cX6_init 160 = .ok (.iconst 0, 1) := by decide +kernel
theorem dX6_init_161 : decode cX6_init 161 = .ok (.istore_n 1, 1) := by decide +kernel
theorem dX6_init_162 : decode cX6_init 162 = .ok (.iload_n 1, 1) := by decide +kernel
theorem dX6_init_163 : decode cX6_init 163 = .ok (.aload_n 0, 1) := by decide +kernel
theorem dX6_init_164 : decode cX6_init 164 = .ok (.getfield 25, 3) := by decide +kernel
theorem dX6_init_167 : decode cX6_init 167 = .ok (.arraylength, 1) := by decide +kernel
theorem dX6_init_168 : decode cX6_init 168 = .ok (.if_icmp .ge 22, 3) := by decide +kernel
theorem dX6_init_171 : decode cX6_init 171 = .ok (.aload_n 0, 1) := by decide +kernel
theorem dX6_init_172 : decode cX6_init 172 = .ok (.getfield 25, 3) := by decide +kernel
theorem dX6_init_175 : decode cX6_init 175 = .ok (.iload_n 1, 1) := by decide +kernel
theorem dX6_init_176 : decode cX6_init 176 = .ok (.new 23, 3) := by decide +kernel
theorem dX6_init_179 : decode cX6_init 179 = .ok (.dup, 1) := by decide +kernel
theorem dX6_init_180 : decode cX6_init 180 = .ok (.invokespecial 45, 3) := by decide +kernel
theorem dX6_init_183 : decode cX6_init 183 = .ok (.aastore, 1) := by decide +kernel
theorem dX6_init_184 : decode cX6_init 184 = .ok (.iinc 1 1, 3) := by decide +kernel
theorem dX6_init_187 : decode cX6_init 187 = .ok (.goto (-25), 3) := by decide +kernel
theorem dX6_init_190 : decode cX6_init 190 = .ok (.return_, 1) := by decide +kernel
theorem dX6_copyFrom_0 : decode cX6_copyFrom 0 = .ok (.aload_n 0, 1) := by decide +kernel
theorem dX6_copyFrom_1 : decode cX6_copyFrom 1 = .ok (.aload_n 1, 1) := by decide +kernel
theorem dX6_copyFrom_2 : decode cX6_copyFrom 2 = .ok (.getfield 46, 3) := by decide +kernel
theorem dX6_copyFrom_5 : decode cX6_copyFrom 5 = .ok (.putfield 46, 3) := by decide +kernel
theorem dX6_copyFrom_8 : decode cX6_copyFrom 8 = .ok (.iconst 0, 1) := by decide +kernel
theorem dX6_copyFrom_9 : decode cX6_copyFrom 9 = .ok (.istore_n 2, 1) := by decide +kernel
theorem dX6_copyFrom_10 : decode cX6_copyFrom 10 = .ok (.iload_n 2, 1) := by decide +kernel
theorem dX6_copyFrom_11 : decode cX6_copyFrom 11 = .ok (.aload_n 0, 1) := by decide +kernel
theorem dX6_copyFrom_12 : decode cX6_copyFrom 12 = .ok (.getfield 46, 3) := by decide +kernel
theorem dX6_copyFrom_15 : decode cX6_copyFrom 15 = .ok (.if_icmp .ge 24, 3) := by decide +kernel
theorem dX6_copyFrom_18 : decode cX6_copyFrom 18 = .ok (.aload_n 0, 1) := by decide +kernel
theorem dX6_copyFrom_19 : decode cX6_copyFrom 19 = .ok (.getfield 11, 3) := by decide +kernel
theorem dX6_copyFrom_22 : decode cX6_copyFrom 22 = .ok (.iload_n 2, 1) := by decide +kernel
theorem dX6_copyFrom_23 : decode cX6_copyFrom 23 = .ok (.aaload, 1) := by decide +kernel
theorem dX6_copyFrom_24 : decode cX6_copyFrom 24 = .ok (.aload_n 1, 1) := by decide +kernel
theorem dX6_copyFrom_25 : decode cX6_copyFrom 25 = .ok (.getfield 11, 3) := by decide +kernel
theorem dX6_copyFrom_28 : decode cX6_copyFrom 28 = .ok (.iload_n 2, 1) := by decide +kernel
theorem dX6_copyFrom_29 : decode cX6_copyFrom 29 = .ok (.aaload, 1) := by decide +kernel
theorem dX6_copyFrom_30 : decode cX6_copyFrom 30 = .ok (.invokevirtual 50, 3) := by decide +kernel
theorem dX6_copyFrom_33 : decode cX6_copyFrom 33 = .ok (.iinc 2 1, 3) := by decide +kernel
theorem dX6_copyFrom_36 : decode cX6_copyFrom 36 = .ok (.goto (-26), 3) := by decide +kernel
theorem dX6_copyFrom_39 : decode cX6_copyFrom 39 = .ok (.aload_n 0, 1) := by decide +kernel
theorem dX6_copyFrom_40 : decode cX6_copyFrom 40 = .ok (.aload_n 1, 1) := by decide +kernel
theorem dX6_copyFrom_41 : decode cX6_copyFrom 41 = .ok (.getfield 54, 3) := by decide +kernel
theorem dX6_copyFrom_44 : decode cX6_copyFrom 44 = .ok (.putfield 54, 3) := by decide +kernel
theorem dX6_copyFrom_47 : decode cX6_copyFrom 47 = .ok (.iconst 0, 1) := by decide +kernel
theorem dX6_copyFrom_48 : decode cX6_copyFrom 48 = .ok (.istore_n 2, 1) := by decide +kernel
theorem dX6_copyFrom_49 : decode cX6_copyFrom 49 = .ok (.iload_n 2, 1) := by decide +kernel
theorem dX6_copyFrom_50 : decode cX6_copyFrom 50 = .ok (.aload_n 0, 1) := by decide +kernel
theorem dX6_copyFrom_51 : decode cX6_copyFrom 51 = .ok (.getfield 54, 3) := by decide +kernel
theorem dX6_copyFrom_54 : decode cX6_copyFrom 54 = .ok (.if_icmp .ge 24, 3) := by decide +kernel
theorem dX6_copyFrom_57 : decode cX6_copyFrom 57 = .ok (.aload_n 0, 1) := by decide +kernel
theorem dX6_copyFrom_58 : decode cX6_copyFrom 58 = .ok (.getfield 19, 3) := by decide +kernel
theorem dX6_copyFrom_61 : decode cX6_copyFrom 61 = .ok (.iload_n 2, 1) := by decide +kernel
theorem dX6_copyFrom_62 : decode cX6_copyFrom 62 = .ok (.aaload, 1) := by decide +kernel
theorem dX6_copyFrom_63 : decode cX6_copyFrom 63 = .ok (.aload_n 1, 1) := by decide +kernel
theorem dX6_copyFrom_64 : decode cX6_copyFrom 64 = .ok (.getfield 19, 3) := by decide +kernel
theorem dX6_copyFrom_67 : decode cX6_copyFrom 67 = .ok (.iload_n 2, 1) := by decide +kernel
theorem dX6_copyFrom_68 : decode cX6_copyFrom 68 = .ok (.aaload, 1) := by decide +kernel
theorem dX6_copyFrom_69 : decode cX6_copyFrom 69 = .ok (.invokevirtual 57, 3) := by decide +kernel
theorem dX6_copyFrom_72 : decode cX6_copyFrom 72 = .ok (.iinc 2 1, 3) := by decide +kernel
theorem dX6_copyFrom_75 : decode cX6_copyFrom 75 = .ok (.goto (-26), 3) := by decide +kernel
theorem dX6_copyFrom_78 : decode cX6_copyFrom 78 = .ok (.aload_n 0, 1) := by decide +kernel
theorem dX6_copyFrom_79 : decode cX6_copyFrom 79 = .ok (.aload_n 1, 1) := by decide +kernel
theorem dX6_copyFrom_80 : decode cX6_copyFrom 80 = .ok (.getfield 60, 3) := by decide +kernel
theorem dX6_copyFrom_83 : decode cX6_copyFrom 83 = .ok (.putfield 60, 3) := by decide +kernel
theorem dX6_copyFrom_86 : decode cX6_copyFrom 86 = .ok (.iconst 0, 1) := by decide +kernel
theorem dX6_copyFrom_87 : decode cX6_copyFrom 87 = .ok (.istore_n 2, 1) := by decide +kernel
theorem dX6_copyFrom_88 : decode cX6_copyFrom 88 = .ok (.iload_n 2, 1) := by decide +kernel
theorem dX6_copyFrom_89 : decode cX6_copyFrom 89 = .ok (.aload_n 0, 1) := by decide +kernel
theorem dX6_copyFrom_90 : decode cX6_copyFrom 90 = .ok (.getfield 60, 3) := by decide +kernel
theorem dX6_copyFrom_93 : decode cX6_copyFrom 93 = .ok (.if_icmp .ge 24, 3) := by decide +kernel
theorem dX6_copyFrom_96 : decode cX6_copyFrom 96 = .ok (.aload_n 0, 1) := by decide +kernel
theorem dX6_copyFrom_97 : decode cX6_copyFrom 97 = .ok (.getfield 25, 3) := by decide +kernel
theorem dX6_copyFrom_100 : decode cX6_copyFrom 100 = .ok (.iload_n 2, 1) := by decide +kernel
theorem dX6_copyFrom_101 : decode cX6_copyFrom 101 = .ok (.aaload, 1) := by decide +kernel
theorem dX6_copyFrom_102 : decode cX6_copyFrom 102 = .ok (.aload_n 1, 1) := by decide +kernel
theorem dX6_copyFrom_103 : decode cX6_copyFrom 103 = .ok (.getfield 25, 3) := by decide +kernel
theorem dX6_copyFrom_106 : decode cX6_copyFrom 106 = .ok (.iload_n 2, 1) := by decide +kernel
theorem dX6_copyFrom_107 : decode cX6_copyFrom 107 = .ok (.aaload, 1) := by decide +kernel
theorem dX6_copyFrom_108 : decode cX6_copyFrom 108 = .ok (.invokevirtual 63, 3) := by decide +kernel
theorem dX6_copyFrom_111 : decode cX6_copyFrom 111 = .ok (.iinc 2 1, 3) := by decide +kernel
theorem dX6_copyFrom_114 : decode cX6_copyFrom 114 = .ok (.goto (-26), 3) := by decide +kernel
theorem dX6_copyFrom_117 : decode cX6_copyFrom 117 = .ok (.aload_n 1, 1) := by decide +kernel
theorem dX6_copyFrom_118 : decode cX6_copyFrom 118 = .ok (.getfield 29, 3) := by decide +kernel
theorem dX6_copyFrom_121 : decode cX6_copyFrom 121 = .ok (.iconst 0, 1) := by decide +kernel
theorem dX6_copyFrom_122 : decode cX6_copyFrom 122 = .ok (.aload_n 0, 1) := by decide +kernel
theorem dX6_copyFrom_123 : decode cX6_copyFrom 123 = .ok (.getfield 29, 3) := by decide +kernel
theorem dX6_copyFrom_126 : decode cX6_copyFrom 126 = .ok (.iconst 0, 1) := by decide +kernel
theorem dX6_copyFrom_127 : decode cX6_copyFrom 127 = .ok (.aload_n 0, 1) := by decide +kernel
theorem dX6_copyFrom_128 : decode cX6_copyFrom 128 = .ok (.getfield 29, 3) := by decide +kernel
theorem dX6_copyFrom_131 : decode cX6_copyFrom 131 = .ok (.arraylength, 1) := by decide +kernel
theorem dX6_copyFrom_132 : decode cX6_copyFrom 132 = .ok (.invokestatic 66, 3) := by decide +kernel
theorem dX6_copyFrom_135 : decode cX6_copyFrom 135 = .ok (.aload_n 1, 1) := by decide +kernel
theorem dX6_copyFrom_136 : decode cX6_copyFrom 136 = .ok (.getfield 33, 3) := by decide +kernel
theorem dX6_copyFrom_139 : decode cX6_copyFrom 139 = .ok (.iconst 0, 1) := by decide +kernel
theorem dX6_copyFrom_140 : decode cX6_copyFrom 140 = .ok (.aload_n 0, 1) := by decide +kernel
theorem dX6_copyFrom_141 : decode cX6_copyFrom 141 = .ok (.getfield 33, 3) := by decide +kernel
theorem dX6_copyFrom_144 : decode cX6_copyFrom 144 = .ok (.iconst 0, 1) := by decide +kernel
theorem dX6_copyFrom_145 : decode cX6_copyFrom 145 = .ok (.aload_n 0, 1) := by decide +kernel
theorem dX6_copyFrom_146 : decode cX6_copyFrom 146 = .ok (.getfield 33, 3) := by decide +kernel
theorem dX6_copyFrom_149 : decode cX6_copyFrom 149 = .ok (.arraylength, 1) := by decide +kernel
theorem dX6_copyFrom_150 : decode cX6_copyFrom 150 = .ok (.invokestatic 66, 3) := by decide +kernel
theorem dX6_copyFrom_153 : decode cX6_copyFrom 153 = .ok (.aload_n 0, 1) := by decide +kernel
theorem dX6_copyFrom_154 : decode cX6_copyFrom 154 = .ok (.getfield 39, 3) := by decide +kernel
theorem dX6_copyFrom_157 : decode cX6_copyFrom 157 = .ok (.aload_n 1, 1) := by decide +kernel
theorem dX6_copyFrom_158 : decode cX6_copyFrom 158 = .ok (.getfield 39, 3) := by decide +kernel
theorem dX6_copyFrom_161 : decode cX6_copyFrom 161 = .ok (.invokevirtual 72, 3) := by decide +kernel
theorem dX6_copyFrom_164 : decode cX6_copyFrom 164 = .ok (.aload_n 0, 1) := by decide +kernel
theorem dX6_copyFrom_165 : decode cX6_copyFrom 165 = .ok (.aload_n 1, 1) := by decide +kernel
theorem dX6_copyFrom_166 : decode cX6_copyFrom 166 = .ok (.getfield 75, 3) := by decide +kernel
theorem dX6_copyFrom_169 : decode cX6_copyFrom 169 = .ok (.putfield 75, 3) := by decide +kernel
theorem dX6_copyFrom_172 : decode cX6_copyFrom 172 = .ok (.aload_n 0, 1) := by decide +kernel
theorem dX6_copyFrom_173 : decode cX6_copyFrom 173 = .ok (.aload_n 1, 1) := by decide +kernel
theorem dX6_copyFrom_174 : decode cX6_copyFrom 174 = .ok (.getfield 78, 3) := by decide +kernel
theorem dX6_copyFrom_177 : decode cX6_copyFrom 177 = .ok (.putfield 78, 3) := by decide +kernel
theorem dX6_copyFrom_180 : decode cX6_copyFrom 180 = .ok (.aload_n 0, 1) := by decide +kernel
theorem dX6_copyFrom_181 : decode cX6_copyFrom 181 = .ok (.aload_n 1, 1) := by decide +kernel
theorem dX6_copyFrom_182 : decode cX6_copyFrom 182 = .ok (.getfield 81, 3) := by decide +kernel
theorem dX6_copyFrom_185 : decode cX6_copyFrom 185 = .ok (.putfield 81, 3) := by decide +kernel
theorem dX6_copyFrom_188 : decode cX6_copyFrom 188 = .ok (.aload_n 0, 1) := by decide +kernel
theorem dX6_copyFrom_189 : decode cX6_copyFrom 189 = .ok (.aload_n 1, 1) := by decide +kernel
theorem dX6_copyFrom_190 : decode cX6_copyFrom 190 = .ok (.getfield 84, 3) := by decide +kernel
theorem dX6_copyFrom_193 : decode cX6_copyFrom 193 = .ok (.putfield 84, 3) := by decide +kernel
theorem dX6_copyFrom_196 : decode cX6_copyFrom 196 = .ok (.aload_n 0, 1) := by decide +kernel
theorem dX6_copyFrom_197 : decode cX6_copyFrom 197 = .ok (.aload_n 1, 1) := by decide +kernel
theorem dX6_copyFrom_198 : decode cX6_copyFrom 198 = .ok (.getfield 87, 3) := by decide +kernel
theorem dX6_copyFrom_201 : decode cX6_copyFrom 201 = .ok (.putfield 87, 3) := by decide +kernel
theorem dX6_copyFrom_204 : decode cX6_copyFrom 204 = .ok (.aload_n 0, 1) := by decide +kernel
theorem dX6_copyFrom_205 : decode cX6_copyFrom 205 = .ok (.aload_n 1, 1) := by decide +kernel
theorem dX6_copyFrom_206 : decode cX6_copyFrom 206 = .ok (.getfield 90, 3) := by decide +kernel
theorem dX6_copyFrom_209 : decode cX6_copyFrom 209 = .ok (.putfield 90, 3) := by decide +kernel
theorem dX6_copyFrom_212 : decode cX6_copyFrom 212 = .ok (.aload_n 0, 1) := by decide +kernel
theorem dX6_copyFrom_213 : decode cX6_copyFrom 213 = .ok (.aload_n 1, 1) := by decide +kernel
theorem dX6_copyFrom_214 : decode cX6_copyFrom 214 = .ok (.getfield 93, 3) := by decide +kernel
theorem dX6_copyFrom_217 : decode cX6_copyFrom 217 = .ok (.putfield 93, 3) := by decide +kernel
theorem dX6_copyFrom_220 : decode cX6_copyFrom 220 = .ok (.return_, 1) := by decide +kernel
theorem dX6_addJob_0 : decode cX6_addJob 0 = .ok (.aload_n 0, 1) := by decide +kernel
theorem dX6_addJob_1 : decode cX6_addJob 1 = .ok (.getfield 46, 3) := by decide +kernel
theorem dX6_addJob_4 : decode cX6_addJob 4 = .ok (.aload_n 0, 1) := by decide +kernel
theorem dX6_addJob_5 : decode cX6_addJob 5 = .ok (.getfield 11, 3) := by decide +kernel
theorem dX6_addJob_8 : decode cX6_addJob 8 = .ok (.arraylength, 1) := by decide +kernel
theorem dX6_addJob_9 : decode cX6_addJob 9 = .ok (.if_icmp .lt 5, 3) := by decide +kernel
theorem dX6_addJob_12 : decode cX6_addJob 12 = .ok (.aconst_null, 1) := by decide +kernel
theorem dX6_addJob_13 : decode cX6_addJob 13 = .ok (.areturn, 1) := by decide +kernel
theorem dX6_addJob_14 : decode cX6_addJob 14 = .ok (.aload_n 0, 1) := by decide +kernel
theorem dX6_addJob_15 : decode cX6_addJob 15 = .ok (.getfield 11, 3) := by decide +kernel
theorem dX6_addJob_18 : decode cX6_addJob 18 = .ok (.aload_n 0, 1) := by decide +kernel
theorem dX6_addJob_19 : decode cX6_addJob 19 = .ok (.getfield 46, 3) := by decide +kernel
theorem dX6_addJob_22 : decode cX6_addJob 22 = .ok (.aaload, 1) := by decide +kernel
theorem dX6_addJob_23 : decode cX6_addJob 23 = .ok (.astore 4, 2) := by decide +kernel
theorem dX6_addJob_25 : decode cX6_addJob 25 = .ok (.aload_n 0, 1) := by decide +kernel
theorem dX6_addJob_26 : decode cX6_addJob 26 = .ok (.dup, 1) := by decide +kernel
theorem dX6_addJob_27 : decode cX6_addJob 27 = .ok (.getfield 46, 3) := by decide +kernel
theorem dX6_addJob_30 : decode cX6_addJob 30 = .ok (.iconst 1, 1) := by decide +kernel
theorem dX6_addJob_31 : decode cX6_addJob 31 = .ok (.iadd, 1) := by decide +kernel
theorem dX6_addJob_32 : decode cX6_addJob 32 = .ok (.putfield 46, 3) := by decide +kernel
theorem dX6_addJob_35 : decode cX6_addJob 35 = .ok (.aload 4, 2) := by decide +kernel
theorem dX6_addJob_37 : decode cX6_addJob 37 = .ok (.aload_n 0, 1) := by decide +kernel
theorem dX6_addJob_38 : decode cX6_addJob 38 = .ok (.getfield 87, 3) := by decide +kernel
theorem dX6_addJob_41 : decode cX6_addJob 41 = .ok (.putfield 96, 3) := by decide +kernel
theorem dX6_addJob_44 : decode cX6_addJob 44 = .ok (.aload_n 0, 1) := by decide +kernel
theorem dX6_addJob_45 : decode cX6_addJob 45 = .ok (.dup, 1) := by decide +kernel
theorem dX6_addJob_46 : decode cX6_addJob 46 = .ok (.getfield 87, 3) := by decide +kernel
theorem dX6_addJob_49 : decode cX6_addJob 49 = .ok (.iconst 1, 1) := by decide +kernel
theorem dX6_addJob_50 : decode cX6_addJob 50 = .ok (.iadd, 1) := by decide +kernel
theorem dX6_addJob_51 : decode cX6_addJob 51 = .ok (.putfield 87, 3) := by decide +kernel
theorem dX6_addJob_54 : decode cX6_addJob 54 = .ok (.aload 4, 2) := by decide +kernel
theorem dX6_addJob_56 : decode cX6_addJob 56 = .ok (.iload_n 1, 1) := by decide +kernel
theorem dX6_addJob_57 : decode cX6_addJob 57 = .ok (.putfield 99, 3) := by decide +kernel
theorem dX6_addJob_60 : decode cX6_addJob 60 = .ok (.aload 4, 2) := by decide +kernel
theorem dX6_addJob_62 : decode cX6_addJob 62 = .ok (.iload_n 2, 1) := by decide +kernel
theorem dX6_addJob_63 : decode cX6_addJob 63 = .ok (.putfield 102, 3) := by decide +kernel
theorem dX6_addJob_66 : decode cX6_addJob 66 = .ok (.aload 4, 2) := by decide +kernel
theorem dX6_addJob_68 : decode cX6_addJob 68 = .ok (.iload_n 3, 1) := by decide +kernel
theorem dX6_addJob_69 : decode cX6_addJob 69 = .ok (.putfield 105, 3) := by decide +kernel
theorem dX6_addJob_72 : decode cX6_addJob 72 = .ok (.aload 4, 2) := by decide +kernel
theorem dX6_addJob_74 : decode cX6_addJob 74 = .ok (.aload_n 0, 1) := by decide +kernel
theorem dX6_addJob_75 : decode cX6_addJob 75 = .ok (.getfield 78, 3) := by decide +kernel
theorem dX6_addJob_78 : decode cX6_addJob 78 = .ok (.putfield 108, 3) := by decide +kernel
theorem dX6_addJob_81 : decode cX6_addJob 81 = .ok (.aload 4, 2) := by decide +kernel
theorem dX6_addJob_83 : decode cX6_addJob 83 = .ok (.iconst (-1), 1) := by decide +kernel
theorem dX6_addJob_84 : decode cX6_addJob 84 = .ok (.putfield 111, 3) := by decide +kernel
theorem dX6_addJob_87 : decode cX6_addJob 87 = .ok (.aload 4, 2) := by decide +kernel
theorem dX6_addJob_89 : decode cX6_addJob 89 = .ok (.iconst (-1), 1) := by decide +kernel
theorem dX6_addJob_90 : decode cX6_addJob 90 = .ok (.putfield 114, 3) := by decide +kernel
theorem dX6_addJob_93 : decode cX6_addJob 93 = .ok (.aload 4, 2) := by decide +kernel
theorem dX6_addJob_95 : decode cX6_addJob 95 = .ok (.iconst 1, 1) := by decide +kernel
theorem dX6_addJob_96 : decode cX6_addJob 96 = .ok (.putfield 117, 3) := by decide +kernel
theorem dX6_addJob_99 : decode cX6_addJob 99 = .ok (.aload 4, 2) := by decide +kernel
theorem dX6_addJob_101 : decode cX6_addJob 101 = .ok (.iconst (-1), 1) := by decide +kernel
theorem dX6_addJob_102 : decode cX6_addJob 102 = .ok (.putfield 121, 3) := by decide +kernel
theorem dX6_addJob_105 : decode cX6_addJob 105 = .ok (.aload 4, 2) := by decide +kernel
theorem dX6_addJob_107 : decode cX6_addJob 107 = .ok (.getfield 124, 3) := by decide +kernel
theorem dX6_addJob_110 : decode cX6_addJob 110 = .ok (.aload_n 0, 1) := by decide +kernel
theorem dX6_addJob_111 : decode cX6_addJob 111 = .ok (.getfield 78, 3) := by decide +kernel
theorem dX6_addJob_114 : decode cX6_addJob 114 = .ok (.invokevirtual 128, 3) := by decide +kernel
theorem dX6_addJob_117 : decode cX6_addJob 117 = .ok (.aload 4, 2) := by decide +kernel
theorem dX6_addJob_119 : decode cX6_addJob 119 = .ok (.areturn, 1) := by decide +kernel
theorem dX6_removeAt_0 : decode cX6_removeAt 0 = .ok (.iload_n 1, 1) := by decide +kernel
theorem dX6_removeAt_1 : decode cX6_removeAt 1 = .ok (.ifCond .lt 11, 3) := by decide +kernel
theorem dX6_removeAt_4 : decode cX6_removeAt 4 = .ok (.iload_n 1, 1) := by decide +kernel
theorem dX6_removeAt_5 : decode cX6_removeAt 5 = .ok (.aload_n 0, 1) := by decide +kernel
theorem dX6_removeAt_6 : decode cX6_removeAt 6 = .ok (.getfield 46, 3) := by decide +kernel
theorem dX6_removeAt_9 : decode cX6_removeAt 9 = .ok (.if_icmp .lt 4, 3) := by decide +kernel
theorem dX6_removeAt_12 : decode cX6_removeAt 12 = .ok (.return_, 1) := by decide +kernel
theorem dX6_removeAt_13 : decode cX6_removeAt 13 = .ok (.aload_n 0, 1) := by decide +kernel
theorem dX6_removeAt_14 : decode cX6_removeAt 14 = .ok (.getfield 11, 3) := by decide +kernel
theorem dX6_removeAt_17 : decode cX6_removeAt 17 = .ok (.iload_n 1, 1) := by decide +kernel
theorem dX6_removeAt_18 : decode cX6_removeAt 18 = .ok (.aaload, 1) := by decide +kernel
theorem dX6_removeAt_19 : decode cX6_removeAt 19 = .ok (.astore_n 2, 1) := by decide +kernel
theorem dX6_removeAt_20 : decode cX6_removeAt 20 = .ok (.iload_n 1, 1) := by decide +kernel
theorem dX6_removeAt_21 : decode cX6_removeAt 21 = .ok (.istore_n 3, 1) := by decide +kernel
theorem dX6_removeAt_22 : decode cX6_removeAt 22 = .ok (.iload_n 3, 1) := by decide +kernel
theorem dX6_removeAt_23 : decode cX6_removeAt 23 = .ok (.iconst 1, 1) := by decide +kernel
theorem dX6_removeAt_24 : decode cX6_removeAt 24 = .ok (.iadd, 1) := by decide +kernel
theorem dX6_removeAt_25 : decode cX6_removeAt 25 = .ok (.aload_n 0, 1) := by decide +kernel
theorem dX6_removeAt_26 : decode cX6_removeAt 26 = .ok (.getfield 46, 3) := by decide +kernel
theorem dX6_removeAt_29 : decode cX6_removeAt 29 = .ok (.if_icmp .ge 23, 3) := by decide +kernel
theorem dX6_removeAt_32 : decode cX6_removeAt 32 = .ok (.aload_n 0, 1) := by decide +kernel
theorem dX6_removeAt_33 : decode cX6_removeAt 33 = .ok (.getfield 11, 3) := by decide +kernel
theorem dX6_removeAt_36 : decode cX6_removeAt 36 = .ok (.iload_n 3, 1) := by decide +kernel
theorem dX6_removeAt_37 : decode cX6_removeAt 37 = .ok (.aload_n 0, 1) := by decide +kernel
theorem dX6_removeAt_38 : decode cX6_removeAt 38 = .ok (.getfield 11, 3) := by decide +kernel
theorem dX6_removeAt_41 : decode cX6_removeAt 41 = .ok (.iload_n 3, 1) := by decide +kernel
theorem dX6_removeAt_42 : decode cX6_removeAt 42 = .ok (.iconst 1, 1) := by decide +kernel
theorem dX6_removeAt_43 : decode cX6_removeAt 43 = .ok (.iadd, 1) := by decide +kernel
theorem dX6_removeAt_44 : decode cX6_removeAt 44 = .ok (.aaload, 1) := by decide +kernel
theorem dX6_removeAt_45 : decode cX6_removeAt 45 = .ok (.aastore, 1) := by decide +kernel
theorem dX6_removeAt_46 : decode cX6_removeAt 46 = .ok (.iinc 3 1, 3) := by decide +kernel
theorem dX6_removeAt_49 : decode cX6_removeAt 49 = .ok (.goto (-27), 3) := by decide +kernel
theorem dX6_removeAt_52 : decode cX6_removeAt 52 = .ok (.aload_n 0, 1) := by decide +kernel
theorem dX6_removeAt_53 : decode cX6_removeAt 53 = .ok (.dup, 1) := by decide +kernel
theorem dX6_removeAt_54 : decode cX6_removeAt 54 = .ok (.getfield 46, 3) := by decide +kernel
theorem dX6_removeAt_57 : decode cX6_removeAt 57 = .ok (.iconst 1, 1) := by decide +kernel
theorem dX6_removeAt_58 : decode cX6_removeAt 58 = .ok (.isub, 1) := by decide +kernel
theorem dX6_removeAt_59 : decode cX6_removeAt 59 = .ok (.putfield 46, 3) := by decide +kernel
theorem dX6_removeAt_62 : decode cX6_removeAt 62 = .ok (.aload_n 0, 1) := by decide +kernel
theorem dX6_removeAt_63 : decode cX6_removeAt 63 = .ok (.getfield 11, 3) := by decide +kernel
theorem dX6_removeAt_66 : decode cX6_removeAt 66 = .ok (.aload_n 0, 1) := by decide +kernel
theorem dX6_removeAt_67 : decode cX6_removeAt 67 = .ok (.getfield 46, 3) := by decide +kernel
theorem dX6_removeAt_70 : decode cX6_removeAt 70 = .ok (.aload_n 2, 1) := by decide +kernel
theorem dX6_removeAt_71 : decode cX6_removeAt 71 = .ok (.aastore, 1) := by decide +kernel
theorem dX6_removeAt_72 : decode cX6_removeAt 72 = .ok (.return_, 1) := by decide +kernel
theorem dX6_addSession_0 : decode cX6_addSession 0 = .ok (.aload_n 0, 1) := by decide +kernel
theorem dX6_addSession_1 : decode cX6_addSession 1 = .ok (.getfield 54, 3) := by decide +kernel
theorem dX6_addSession_4 : decode cX6_addSession 4 = .ok (.aload_n 0, 1) := by decide +kernel
theorem dX6_addSession_5 : decode cX6_addSession 5 = .ok (.getfield 19, 3) := by decide +kernel
theorem dX6_addSession_8 : decode cX6_addSession 8 = .ok (.arraylength, 1) := by decide +kernel
theorem dX6_addSession_9 : decode cX6_addSession 9 = .ok (.if_icmp .ge 26, 3) := by decide +kernel
theorem dX6_addSession_12 : decode cX6_addSession 12 = .ok (.aload_n 0, 1) := by decide +kernel
theorem dX6_addSession_13 : decode cX6_addSession 13 = .ok (.getfield 19, 3) := by decide +kernel
theorem dX6_addSession_16 : decode cX6_addSession 16 = .ok (.aload_n 0, 1) := by decide +kernel
theorem dX6_addSession_17 : decode cX6_addSession 17 = .ok (.getfield 54, 3) := by decide +kernel
theorem dX6_addSession_20 : decode cX6_addSession 20 = .ok (.aaload, 1) := by decide +kernel
theorem dX6_addSession_21 : decode cX6_addSession 21 = .ok (.iload_n 1, 1) := by decide +kernel
theorem dX6_addSession_22 : decode cX6_addSession 22 = .ok (.invokevirtual 134, 3) := by decide +kernel
theorem dX6_addSession_25 : decode cX6_addSession 25 = .ok (.aload_n 0, 1) := by decide +kernel
theorem dX6_addSession_26 : decode cX6_addSession 26 = .ok (.dup, 1) := by decide +kernel
theorem dX6_addSession_27 : decode cX6_addSession 27 = .ok (.getfield 54, 3) := by decide +kernel
theorem dX6_addSession_30 : decode cX6_addSession 30 = .ok (.iconst 1, 1) := by decide +kernel
theorem dX6_addSession_31 : decode cX6_addSession 31 = .ok (.iadd, 1) := by decide +kernel
theorem dX6_addSession_32 : decode cX6_addSession 32 = .ok (.putfield 54, 3) := by decide +kernel
theorem dX6_addSession_35 : decode cX6_addSession 35 = .ok (.return_, 1) := by decide +kernel
theorem dX6_jobSeen_0 : decode cX6_jobSeen 0 = .ok (.iconst 0, 1) := by decide +kernel
theorem dX6_jobSeen_1 : decode cX6_jobSeen 1 = .ok (.istore_n 3, 1) := by decide +kernel
theorem dX6_jobSeen_2 : decode cX6_jobSeen 2 = .ok (.iload_n 3, 1) := by decide +kernel
theorem dX6_jobSeen_3 : decode cX6_jobSeen 3 = .ok (.aload_n 0, 1) := by decide +kernel
theorem dX6_jobSeen_4 : decode cX6_jobSeen 4 = .ok (.getfield 46, 3) := by decide +kernel
theorem dX6_jobSeen_7 : decode cX6_jobSeen 7 = .ok (.if_icmp .ge 42, 3) := by decide +kernel
theorem dX6_jobSeen_10 : decode cX6_jobSeen 10 = .ok (.aload_n 0, 1) := by decide +kernel
theorem dX6_jobSeen_11 : decode cX6_jobSeen 11 = .ok (.getfield 11, 3) := by decide +kernel
theorem dX6_jobSeen_14 : decode cX6_jobSeen 14 = .ok (.iload_n 3, 1) := by decide +kernel
theorem dX6_jobSeen_15 : decode cX6_jobSeen 15 = .ok (.aaload, 1) := by decide +kernel
theorem dX6_jobSeen_16 : decode cX6_jobSeen 16 = .ok (.getfield 96, 3) := by decide +kernel
theorem dX6_jobSeen_19 : decode cX6_jobSeen 19 = .ok (.iload_n 1, 1) := by decide +kernel
theorem dX6_jobSeen_20 : decode cX6_jobSeen 20 = .ok (.if_icmp .ne 23, 3) := by decide +kernel
theorem dX6_jobSeen_23 : decode cX6_jobSeen 23 = .ok (.aload_n 0, 1) := by decide +kernel
theorem dX6_jobSeen_24 : decode cX6_jobSeen 24 = .ok (.getfield 11, 3) := by decide +kernel
theorem dX6_jobSeen_27 : decode cX6_jobSeen 27 = .ok (.iload_n 3, 1) := by decide +kernel
theorem dX6_jobSeen_28 : decode cX6_jobSeen 28 = .ok (.aaload, 1) := by decide +kernel
theorem dX6_jobSeen_29 : decode cX6_jobSeen 29 = .ok (.iload_n 2, 1) := by decide +kernel
theorem dX6_jobSeen_30 : decode cX6_jobSeen 30 = .ok (.invokevirtual 137, 3) := by decide +kernel
theorem dX6_jobSeen_33 : decode cX6_jobSeen 33 = .ok (.ifCond .eq 10, 3) := by decide +kernel
theorem dX6_jobSeen_36 : decode cX6_jobSeen 36 = .ok (.aload_n 0, 1) := by decide +kernel
theorem dX6_jobSeen_37 : decode cX6_jobSeen 37 = .ok (.getfield 11, 3) := by decide +kernel
theorem dX6_jobSeen_40 : decode cX6_jobSeen 40 = .ok (.iload_n 3, 1) := by decide +kernel
theorem dX6_jobSeen_41 : decode cX6_jobSeen 41 = .ok (.aaload, 1) := by decide +kernel
theorem dX6_jobSeen_42 : decode cX6_jobSeen 42 = .ok (.areturn, 1) := by decide +kernel
theorem dX6_jobSeen_43 : decode cX6_jobSeen 43 = .ok (.iinc 3 1, 3) := by decide +kernel
theorem dX6_jobSeen_46 : decode cX6_jobSeen 46 = .ok (.goto (-44), 3) := by decide +kernel
theorem dX6_jobSeen_49 : decode cX6_jobSeen 49 = .ok (.aconst_null, 1) := by decide +kernel
theorem dX6_jobSeen_50 : decode cX6_jobSeen 50 = .ok (.areturn, 1) := by decide +kernel
theorem dX6_sweepDone_0 : decode cX6_sweepDone 0 = .ok (.aload_n 0, 1) := by decide +kernel
theorem dX6_sweepDone_1 : decode cX6_sweepDone 1 = .ok (.getfield 46, 3) := by decide +kernel
theorem dX6_sweepDone_4 : decode cX6_sweepDone 4 = .ok (.istore_n 1, 1) := by decide +kernel
theorem dX6_sweepDone_5 : decode cX6_sweepDone 5 = .ok (.aload_n 0, 1) := by decide +kernel
theorem dX6_sweepDone_6 : decode cX6_sweepDone 6 = .ok (.getfield 46, 3) := by decide +kernel
theorem dX6_sweepDone_9 : decode cX6_sweepDone 9 = .ok (.iconst 1, 1) := by decide +kernel
theorem dX6_sweepDone_10 : decode cX6_sweepDone 10 = .ok (.isub, 1) := by decide +kernel
theorem dX6_sweepDone_11 : decode cX6_sweepDone 11 = .ok (.istore_n 2, 1) := by decide +kernel
theorem dX6_sweepDone_12 : decode cX6_sweepDone 12 = .ok (.iload_n 2, 1) := by decide +kernel
theorem dX6_sweepDone_13 : decode cX6_sweepDone 13 = .ok (.ifCond .lt 40, 3) := by decide +kernel
theorem dX6_sweepDone_16 : decode cX6_sweepDone 16 = .ok (.aload_n 0, 1) := by decide +kernel
theorem dX6_sweepDone_17 : decode cX6_sweepDone 17 = .ok (.getfield 11, 3) := by decide +kernel
theorem dX6_sweepDone_20 : decode cX6_sweepDone 20 = .ok (.iload_n 2, 1) := by decide +kernel
theorem dX6_sweepDone_21 : decode cX6_sweepDone 21 = .ok (.aaload, 1) := by decide +kernel
theorem dX6_sweepDone_22 : decode cX6_sweepDone 22 = .ok (.astore_n 3, 1) := by decide +kernel
theorem dX6_sweepDone_23 : decode cX6_sweepDone 23 = .ok (.aload_n 3, 1) := by decide +kernel
theorem dX6_sweepDone_24 : decode cX6_sweepDone 24 = .ok (.getfield 121, 3) := by decide +kernel
theorem dX6_sweepDone_27 : decode cX6_sweepDone 27 = .ok (.iconst (-1), 1) := by decide +kernel
theorem dX6_sweepDone_28 : decode cX6_sweepDone 28 = .ok (.if_icmp .ne 19, 3) := by decide +kernel
theorem dX6_sweepDone_31 : decode cX6_sweepDone 31 = .ok (.aload_n 3, 1) := by decide +kernel
theorem dX6_sweepDone_32 : decode cX6_sweepDone 32 = .ok (.getfield 124, 3) := by decide +kernel
theorem dX6_sweepDone_35 : decode cX6_sweepDone 35 = .ok (.getfield 141, 3) := by decide +kernel
theorem dX6_sweepDone_38 : decode cX6_sweepDone 38 = .ok (.iconst 2, 1) := by decide +kernel
theorem dX6_sweepDone_39 : decode cX6_sweepDone 39 = .ok (.if_icmp .ne 8, 3) := by decide +kernel
theorem dX6_sweepDone_42 : decode cX6_sweepDone 42 = .ok (.aload_n 0, 1) := by decide +kernel
theorem dX6_sweepDone_43 : decode cX6_sweepDone 43 = .ok (.iload_n 2, 1) := by decide +kernel
theorem dX6_sweepDone_44 : decode cX6_sweepDone 44 = .ok (.invokevirtual 144, 3) := by decide +kernel
theorem dX6_sweepDone_47 : decode cX6_sweepDone 47 = .ok (.iinc 2 (-1), 3) := by decide +kernel
theorem dX6_sweepDone_50 : decode cX6_sweepDone 50 = .ok (.goto (-38), 3) := by decide +kernel
theorem dX6_sweepDone_53 : decode cX6_sweepDone 53 = .ok (.aload_n 0, 1) := by decide +kernel
theorem dX6_sweepDone_54 : decode cX6_sweepDone 54 = .ok (.dup, 1) := by decide +kernel
theorem dX6_sweepDone_55 : decode cX6_sweepDone 55 = .ok (.getfield 93, 3) := by decide +kernel
theorem dX6_sweepDone_58 : decode cX6_sweepDone 58 = .ok (.iload_n 1, 1) := by decide +kernel
theorem dX6_sweepDone_59 : decode cX6_sweepDone 59 = .ok (.aload_n 0, 1) := by decide +kernel
theorem dX6_sweepDone_60 : decode cX6_sweepDone 60 = .ok (.getfield 46, 3) := by decide +kernel
theorem dX6_sweepDone_63 : decode cX6_sweepDone 63 = .ok (.isub, 1) := by decide +kernel
theorem dX6_sweepDone_64 : decode cX6_sweepDone 64 = .ok (.iadd, 1) := by decide +kernel
theorem dX6_sweepDone_65 : decode cX6_sweepDone 65 = .ok (.putfield 93, 3) := by decide +kernel
theorem dX6_sweepDone_68 : decode cX6_sweepDone 68 = .ok (.iload_n 1, 1) := by decide +kernel
theorem dX6_sweepDone_69 : decode cX6_sweepDone 69 = .ok (.aload_n 0, 1) := by decide +kernel
theorem dX6_sweepDone_70 : decode cX6_sweepDone 70 = .ok (.getfield 46, 3) := by decide +kernel
theorem dX6_sweepDone_73 : decode cX6_sweepDone 73 = .ok (.isub, 1) := by decide +kernel
theorem dX6_sweepDone_74 : decode cX6_sweepDone 74 = .ok (.ireturn, 1) := by decide +kernel
theorem dX6_keepSavepoint_0 : decode cX6_keepSavepoint 0 = .ok (.aload_n 0, 1) := by decide +kernel
theorem dX6_keepSavepoint_1 : decode cX6_keepSavepoint 1 = .ok (.getfield 19, 3) := by decide +kernel
theorem dX6_keepSavepoint_4 : decode cX6_keepSavepoint 4 = .ok (.iload_n 1, 1) := by decide +kernel
theorem dX6_keepSavepoint_5 : decode cX6_keepSavepoint 5 = .ok (.aaload, 1) := by decide +kernel
theorem dX6_keepSavepoint_6 : decode cX6_keepSavepoint 6 = .ok (.astore_n 2, 1) := by decide +kernel
theorem dX6_keepSavepoint_7 : decode cX6_keepSavepoint 7 = .ok (.iconst 0, 1) := by decide +kernel
theorem dX6_keepSavepoint_8 : decode cX6_keepSavepoint 8 = .ok (.istore_n 3, 1) := by decide +kernel
theorem dX6_keepSavepoint_9 : decode cX6_keepSavepoint 9 = .ok (.iload_n 3, 1) := by decide +kernel
theorem dX6_keepSavepoint_10 : decode cX6_keepSavepoint 10 = .ok (.aload_n 0, 1) := by decide +kernel
theorem dX6_keepSavepoint_11 : decode cX6_keepSavepoint 11 = .ok (.getfield 46, 3) := by decide +kernel
theorem dX6_keepSavepoint_14 : decode cX6_keepSavepoint 14 = .ok (.if_icmp .ge 35, 3) := by decide +kernel
theorem dX6_keepSavepoint_17 : decode cX6_keepSavepoint 17 = .ok (.aload_n 0, 1) := by decide +kernel
theorem dX6_keepSavepoint_18 : decode cX6_keepSavepoint 18 = .ok (.getfield 11, 3) := by decide +kernel
theorem dX6_keepSavepoint_21 : decode cX6_keepSavepoint 21 = .ok (.iload_n 3, 1) := by decide +kernel
theorem dX6_keepSavepoint_22 : decode cX6_keepSavepoint 22 = .ok (.aaload, 1) := by decide +kernel
theorem dX6_keepSavepoint_23 : decode cX6_keepSavepoint 23 = .ok (.iload_n 1, 1) := by decide +kernel
theorem dX6_keepSavepoint_24 : decode cX6_keepSavepoint 24 = .ok (.invokevirtual 147, 3) := by decide +kernel
theorem dX6_keepSavepoint_27 : decode cX6_keepSavepoint 27 = .ok (.ifCond .eq 16, 3) := by decide +kernel
theorem dX6_keepSavepoint_30 : decode cX6_keepSavepoint 30 = .ok (.aload_n 0, 1) := by decide +kernel
theorem dX6_keepSavepoint_31 : decode cX6_keepSavepoint 31 = .ok (.getfield 11, 3) := by decide +kernel
theorem dX6_keepSavepoint_34 : decode cX6_keepSavepoint 34 = .ok (.iload_n 3, 1) := by decide +kernel
theorem dX6_keepSavepoint_35 : decode cX6_keepSavepoint 35 = .ok (.aaload, 1) := by decide +kernel
theorem dX6_keepSavepoint_36 : decode cX6_keepSavepoint 36 = .ok (.aload_n 2, 1) := by decide +kernel
theorem dX6_keepSavepoint_37 : decode cX6_keepSavepoint 37 = .ok (.getfield 150, 3) := by decide +kernel
theorem dX6_keepSavepoint_40 : decode cX6_keepSavepoint 40 = .ok (.invokevirtual 153, 3) := by decide +kernel
theorem dX6_keepSavepoint_43 : decode cX6_keepSavepoint 43 = .ok (.iinc 3 1, 3) := by decide +kernel
theorem dX6_keepSavepoint_46 : decode cX6_keepSavepoint 46 = .ok (.goto (-37), 3) := by decide +kernel
theorem dX6_keepSavepoint_49 : decode cX6_keepSavepoint 49 = .ok (.aload_n 2, 1) := by decide +kernel
theorem dX6_keepSavepoint_50 : decode cX6_keepSavepoint 50 = .ok (.dup, 1) := by decide +kernel
theorem dX6_keepSavepoint_51 : decode cX6_keepSavepoint 51 = .ok (.getfield 150, 3) := by decide +kernel
theorem dX6_keepSavepoint_54 : decode cX6_keepSavepoint 54 = .ok (.iconst 1, 1) := by decide +kernel
theorem dX6_keepSavepoint_55 : decode cX6_keepSavepoint 55 = .ok (.iadd, 1) := by decide +kernel
theorem dX6_keepSavepoint_56 : decode cX6_keepSavepoint 56 = .ok (.putfield 150, 3) := by decide +kernel
theorem dX6_keepSavepoint_59 : decode cX6_keepSavepoint 59 = .ok (.return_, 1) := by decide +kernel
theorem dX6_returnToSavepoint_0 : decode cX6_returnToSavepoint 0 = .ok (.iconst 0, 1) := by decide +kernel
theorem dX6_returnToSavepoint_1 : decode cX6_returnToSavepoint 1 = .ok (.istore_n 3, 1) := by decide +kernel
theorem dX6_returnToSavepoint_2 : decode cX6_returnToSavepoint 2 = .ok (.aload_n 0, 1) := by decide +kernel
theorem dX6_returnToSavepoint_3 : decode cX6_returnToSavepoint 3 = .ok (.getfield 46, 3) := by decide +kernel
theorem dX6_returnToSavepoint_6 : decode cX6_returnToSavepoint 6 = .ok (.iconst 1, 1) := by decide +kernel
theorem dX6_returnToSavepoint_7 : decode cX6_returnToSavepoint 7 = .ok (.isub, 1) := by decide +kernel
theorem dX6_returnToSavepoint_8 : decode cX6_returnToSavepoint 8 = .ok (.istore 4, 2) := by decide +kernel
theorem dX6_returnToSavepoint_10 : decode cX6_returnToSavepoint 10 = .ok (.iload 4, 2) := by decide +kernel
theorem dX6_returnToSavepoint_12 : decode cX6_returnToSavepoint 12 = .ok (.ifCond .lt 54, 3) := by decide +kernel
theorem dX6_returnToSavepoint_15 : decode cX6_returnToSavepoint 15 = .ok (.aload_n 0, 1) := by decide +kernel
theorem dX6_returnToSavepoint_16 : decode cX6_returnToSavepoint 16 = .ok (.getfield 11, 3) := by decide +kernel
theorem dX6_returnToSavepoint_19 : decode cX6_returnToSavepoint 19 = .ok (.iload 4, 2) := by decide +kernel
theorem dX6_returnToSavepoint_21 : decode cX6_returnToSavepoint 21 = .ok (.aaload, 1) := by decide +kernel
theorem dX6_returnToSavepoint_22 : decode cX6_returnToSavepoint 22 = .ok (.astore 5, 2) := by decide +kernel
theorem dX6_returnToSavepoint_24 : decode cX6_returnToSavepoint 24 = .ok (.aload 5, 2) := by decide +kernel
theorem dX6_returnToSavepoint_26 : decode cX6_returnToSavepoint 26 = .ok (.iload_n 1, 1) := by decide +kernel
theorem dX6_returnToSavepoint_27 : decode cX6_returnToSavepoint 27 = .ok (.invokevirtual 147, 3) := by decide +kernel
theorem dX6_returnToSavepoint_30 : decode cX6_returnToSavepoint 30 = .ok (.ifCond .eq 30, 3) := by decide +kernel
theorem dX6_returnToSavepoint_33 : decode cX6_returnToSavepoint 33 = .ok (.aload 5, 2) := by decide +kernel
theorem dX6_returnToSavepoint_35 : decode cX6_returnToSavepoint 35 = .ok (.iload_n 2, 1) := by decide +kernel
theorem dX6_returnToSavepoint_36 : decode cX6_returnToSavepoint 36 = .ok (.invokevirtual 156, 3) := by decide +kernel
theorem dX6_returnToSavepoint_39 : decode cX6_returnToSavepoint 39 = .ok (.ifCond .eq 12, 3) := by decide +kernel
theorem dX6_returnToSavepoint_42 : decode cX6_returnToSavepoint 42 = .ok (.aload 5, 2) := by decide +kernel
theorem dX6_returnToSavepoint_44 : decode cX6_returnToSavepoint 44 = .ok (.iload_n 2, 1) := by decide +kernel
theorem dX6_returnToSavepoint_45 : decode cX6_returnToSavepoint 45 = .ok (.invokevirtual 159, 3) := by decide +kernel
theorem dX6_returnToSavepoint_48 : decode cX6_returnToSavepoint 48 = .ok (.goto 12, 3) := by decide +kernel
theorem dX6_returnToSavepoint_51 : decode cX6_returnToSavepoint 51 = .ok (.aload_n 0, 1) := by decide +kernel
theorem dX6_returnToSavepoint_52 : decode cX6_returnToSavepoint 52 = .ok (.iload 4, 2) := by decide +kernel
theorem dX6_returnToSavepoint_54 : decode cX6_returnToSavepoint 54 = .ok (.invokevirtual 162, 3) := by decide +kernel
theorem dX6_returnToSavepoint_57 : decode cX6_returnToSavepoint 57 = .ok (.iinc 3 1, 3) := by decide +kernel
theorem dX6_returnToSavepoint_60 : decode cX6_returnToSavepoint 60 = .ok (.iinc 4 (-1), 3) := by decide +kernel
theorem dX6_returnToSavepoint_63 : decode cX6_returnToSavepoint 63 = .ok (.goto (-53), 3) := by decide +kernel
theorem dX6_returnToSavepoint_66 : decode cX6_returnToSavepoint 66 = .ok (.aload_n 0, 1) := by decide +kernel
theorem dX6_returnToSavepoint_67 : decode cX6_returnToSavepoint 67 = .ok (.getfield 19, 3) := by decide +kernel
theorem dX6_returnToSavepoint_70 : decode cX6_returnToSavepoint 70 = .ok (.iload_n 1, 1) := by decide +kernel
theorem dX6_returnToSavepoint_71 : decode cX6_returnToSavepoint 71 = .ok (.aaload, 1) := by decide +kernel
theorem dX6_returnToSavepoint_72 : decode cX6_returnToSavepoint 72 = .ok (.iload_n 2, 1) := by decide +kernel
theorem dX6_returnToSavepoint_73 : decode cX6_returnToSavepoint 73 = .ok (.iconst 1, 1) := by decide +kernel
theorem dX6_returnToSavepoint_74 : decode cX6_returnToSavepoint 74 = .ok (.iadd, 1) := by decide +kernel
theorem dX6_returnToSavepoint_75 : decode cX6_returnToSavepoint 75 = .ok (.putfield 150, 3) := by decide +kernel
theorem dX6_returnToSavepoint_78 : decode cX6_returnToSavepoint 78 = .ok (.iload_n 3, 1) := by decide +kernel
theorem dX6_returnToSavepoint_79 : decode cX6_returnToSavepoint 79 = .ok (.ireturn, 1) := by decide +kernel
theorem dX6_release_0 : decode cX6_release 0 = .ok (.aload_n 0, 1) := by decide +kernel
theorem dX6_release_1 : decode cX6_release 1 = .ok (.getfield 11, 3) := by decide +kernel
theorem dX6_release_4 : decode cX6_release 4 = .ok (.iload_n 1, 1) := by decide +kernel
theorem dX6_release_5 : decode cX6_release 5 = .ok (.aaload, 1) := by decide +kernel
theorem dX6_release_6 : decode cX6_release 6 = .ok (.iconst (-1), 1) := by decide +kernel
theorem dX6_release_7 : decode cX6_release 7 = .ok (.putfield 121, 3) := by decide +kernel
theorem dX6_release_10 : decode cX6_release 10 = .ok (.aload_n 0, 1) := by decide +kernel
theorem dX6_release_11 : decode cX6_release 11 = .ok (.getfield 11, 3) := by decide +kernel
theorem dX6_release_14 : decode cX6_release 14 = .ok (.iload_n 1, 1) := by decide +kernel
theorem dX6_release_15 : decode cX6_release 15 = .ok (.aaload, 1) := by decide +kernel
theorem dX6_release_16 : decode cX6_release 16 = .ok (.getfield 117, 3) := by decide +kernel
theorem dX6_release_19 : decode cX6_release 19 = .ok (.ifCond .ne 8, 3) := by decide +kernel
theorem dX6_release_22 : decode cX6_release 22 = .ok (.aload_n 0, 1) := by decide +kernel
theorem dX6_release_23 : decode cX6_release 23 = .ok (.iload_n 1, 1) := by decide +kernel
theorem dX6_release_24 : decode cX6_release 24 = .ok (.invokevirtual 144, 3) := by decide +kernel
theorem dX6_release_27 : decode cX6_release 27 = .ok (.return_, 1) := by decide +kernel
theorem dX6_commitAll_0 : decode cX6_commitAll 0 = .ok (.iconst 0, 1) := by decide +kernel
theorem dX6_commitAll_1 : decode cX6_commitAll 1 = .ok (.istore_n 2, 1) := by decide +kernel
theorem dX6_commitAll_2 : decode cX6_commitAll 2 = .ok (.iconst 0, 1) := by decide +kernel
theorem dX6_commitAll_3 : decode cX6_commitAll 3 = .ok (.istore_n 3, 1) := by decide +kernel
theorem dX6_commitAll_4 : decode cX6_commitAll 4 = .ok (.iload_n 3, 1) := by decide +kernel
theorem dX6_commitAll_5 : decode cX6_commitAll 5 = .ok (.aload_n 0, 1) := by decide +kernel
theorem dX6_commitAll_6 : decode cX6_commitAll 6 = .ok (.getfield 46, 3) := by decide +kernel
theorem dX6_commitAll_9 : decode cX6_commitAll 9 = .ok (.if_icmp .ge 51, 3) := by decide +kernel
theorem dX6_commitAll_12 : decode cX6_commitAll 12 = .ok (.aload_n 0, 1) := by decide +kernel
theorem dX6_commitAll_13 : decode cX6_commitAll 13 = .ok (.getfield 11, 3) := by decide +kernel
theorem dX6_commitAll_16 : decode cX6_commitAll 16 = .ok (.iload_n 3, 1) := by decide +kernel
theorem dX6_commitAll_17 : decode cX6_commitAll 17 = .ok (.aaload, 1) := by decide +kernel
theorem dX6_commitAll_18 : decode cX6_commitAll 18 = .ok (.iload_n 1, 1) := by decide +kernel
theorem dX6_commitAll_19 : decode cX6_commitAll 19 = .ok (.invokevirtual 147, 3) := by decide +kernel
theorem dX6_commitAll_22 : decode cX6_commitAll 22 = .ok (.ifCond .eq 32, 3) := by decide +kernel
theorem dX6_commitAll_25 : decode cX6_commitAll 25 = .ok (.aload_n 0, 1) := by decide +kernel
theorem dX6_commitAll_26 : decode cX6_commitAll 26 = .ok (.getfield 39, 3) := by decide +kernel
theorem dX6_commitAll_29 : decode cX6_commitAll 29 = .ok (.aload_n 0, 1) := by decide +kernel
theorem dX6_commitAll_30 : decode cX6_commitAll 30 = .ok (.getfield 78, 3) := by decide +kernel
theorem dX6_commitAll_33 : decode cX6_commitAll 33 = .ok (.aload_n 0, 1) := by decide +kernel
theorem dX6_commitAll_34 : decode cX6_commitAll 34 = .ok (.getfield 11, 3) := by decide +kernel
theorem dX6_commitAll_37 : decode cX6_commitAll 37 = .ok (.iload_n 3, 1) := by decide +kernel
theorem dX6_commitAll_38 : decode cX6_commitAll 38 = .ok (.aaload, 1) := by decide +kernel
theorem dX6_commitAll_39 : decode cX6_commitAll 39 = .ok (.invokevirtual 165, 3) := by decide +kernel
theorem dX6_commitAll_42 : decode cX6_commitAll 42 = .ok (.aload_n 0, 1) := by decide +kernel
theorem dX6_commitAll_43 : decode cX6_commitAll 43 = .ok (.getfield 11, 3) := by decide +kernel
theorem dX6_commitAll_46 : decode cX6_commitAll 46 = .ok (.iload_n 3, 1) := by decide +kernel
theorem dX6_commitAll_47 : decode cX6_commitAll 47 = .ok (.aaload, 1) := by decide +kernel
theorem dX6_commitAll_48 : decode cX6_commitAll 48 = .ok (.invokevirtual 169, 3) := by decide +kernel
theorem dX6_commitAll_51 : decode cX6_commitAll 51 = .ok (.iinc 2 1, 3) := by decide +kernel
theorem dX6_commitAll_54 : decode cX6_commitAll 54 = .ok (.iinc 3 1, 3) := by decide +kernel
theorem dX6_commitAll_57 : decode cX6_commitAll 57 = .ok (.goto (-53), 3) := by decide +kernel
theorem dX6_commitAll_60 : decode cX6_commitAll 60 = .ok (.aload_n 0, 1) := by decide +kernel
theorem dX6_commitAll_61 : decode cX6_commitAll 61 = .ok (.getfield 19, 3) := by decide +kernel
theorem dX6_commitAll_64 : decode cX6_commitAll 64 = .ok (.iload_n 1, 1) := by decide +kernel
theorem dX6_commitAll_65 : decode cX6_commitAll 65 = .ok (.aaload, 1) := by decide +kernel
theorem dX6_commitAll_66 : decode cX6_commitAll 66 = .ok (.invokevirtual 172, 3) := by decide +kernel
theorem dX6_commitAll_69 : decode cX6_commitAll 69 = .ok (.iload_n 2, 1) := by decide +kernel
theorem dX6_commitAll_70 : decode cX6_commitAll 70 = .ok (.ireturn, 1) := by decide +kernel
theorem dX6_rollAll_0 : decode cX6_rollAll 0 = .ok (.iconst 0, 1) := by decide +kernel
theorem dX6_rollAll_1 : decode cX6_rollAll 1 = .ok (.istore_n 2, 1) := by decide +kernel
theorem dX6_rollAll_2 : decode cX6_rollAll 2 = .ok (.aload_n 0, 1) := by decide +kernel
theorem dX6_rollAll_3 : decode cX6_rollAll 3 = .ok (.getfield 46, 3) := by decide +kernel
theorem dX6_rollAll_6 : decode cX6_rollAll 6 = .ok (.iconst 1, 1) := by decide +kernel
theorem dX6_rollAll_7 : decode cX6_rollAll 7 = .ok (.isub, 1) := by decide +kernel
theorem dX6_rollAll_8 : decode cX6_rollAll 8 = .ok (.istore_n 3, 1) := by decide +kernel
theorem dX6_rollAll_9 : decode cX6_rollAll 9 = .ok (.iload_n 3, 1) := by decide +kernel
theorem dX6_rollAll_10 : decode cX6_rollAll 10 = .ok (.ifCond .lt 30, 3) := by decide +kernel
theorem dX6_rollAll_13 : decode cX6_rollAll 13 = .ok (.aload_n 0, 1) := by decide +kernel
theorem dX6_rollAll_14 : decode cX6_rollAll 14 = .ok (.getfield 11, 3) := by decide +kernel
theorem dX6_rollAll_17 : decode cX6_rollAll 17 = .ok (.iload_n 3, 1) := by decide +kernel
theorem dX6_rollAll_18 : decode cX6_rollAll 18 = .ok (.aaload, 1) := by decide +kernel
theorem dX6_rollAll_19 : decode cX6_rollAll 19 = .ok (.iload_n 1, 1) := by decide +kernel
theorem dX6_rollAll_20 : decode cX6_rollAll 20 = .ok (.invokevirtual 147, 3) := by decide +kernel
theorem dX6_rollAll_23 : decode cX6_rollAll 23 = .ok (.ifCond .eq 11, 3) := by decide +kernel
theorem dX6_rollAll_26 : decode cX6_rollAll 26 = .ok (.aload_n 0, 1) := by decide +kernel
theorem dX6_rollAll_27 : decode cX6_rollAll 27 = .ok (.iload_n 3, 1) := by decide +kernel
theorem dX6_rollAll_28 : decode cX6_rollAll 28 = .ok (.invokevirtual 162, 3) := by decide +kernel
theorem dX6_rollAll_31 : decode cX6_rollAll 31 = .ok (.iinc 2 1, 3) := by decide +kernel
theorem dX6_rollAll_34 : decode cX6_rollAll 34 = .ok (.iinc 3 (-1), 3) := by decide +kernel
theorem dX6_rollAll_37 : decode cX6_rollAll 37 = .ok (.goto (-28), 3) := by decide +kernel
theorem dX6_rollAll_40 : decode cX6_rollAll 40 = .ok (.aload_n 0, 1) := by decide +kernel
theorem dX6_rollAll_41 : decode cX6_rollAll 41 = .ok (.getfield 19, 3) := by decide +kernel
theorem dX6_rollAll_44 : decode cX6_rollAll 44 = .ok (.iload_n 1, 1) := by decide +kernel
theorem dX6_rollAll_45 : decode cX6_rollAll 45 = .ok (.aaload, 1) := by decide +kernel
theorem dX6_rollAll_46 : decode cX6_rollAll 46 = .ok (.invokevirtual 172, 3) := by decide +kernel
theorem dX6_rollAll_49 : decode cX6_rollAll 49 = .ok (.iload_n 2, 1) := by decide +kernel
theorem dX6_rollAll_50 : decode cX6_rollAll 50 = .ok (.ireturn, 1) := by decide +kernel
theorem dX6_closeAct_0 : decode cX6_closeAct 0 = .ok (.aload_n 0, 1) := by decide +kernel
theorem dX6_closeAct_1 : decode cX6_closeAct 1 = .ok (.getfield 19, 3) := by decide +kernel
theorem dX6_closeAct_4 : decode cX6_closeAct 4 = .ok (.iload_n 1, 1) := by decide +kernel
theorem dX6_closeAct_5 : decode cX6_closeAct 5 = .ok (.aaload, 1) := by decide +kernel
theorem dX6_closeAct_6 : decode cX6_closeAct 6 = .ok (.getfield 175, 3) := by decide +kernel
theorem dX6_closeAct_9 : decode cX6_closeAct 9 = .ok (.ifCond .ne 9, 3) := by decide +kernel
theorem dX6_closeAct_12 : decode cX6_closeAct 12 = .ok (.aload_n 0, 1) := by decide +kernel
theorem dX6_closeAct_13 : decode cX6_closeAct 13 = .ok (.iload_n 1, 1) := by decide +kernel
theorem dX6_closeAct_14 : decode cX6_closeAct 14 = .ok (.invokevirtual 178, 3) := by decide +kernel
theorem dX6_closeAct_17 : decode cX6_closeAct 17 = .ok (.pop, 1) := by decide +kernel
theorem dX6_closeAct_18 : decode cX6_closeAct 18 = .ok (.return_, 1) := by decide +kernel
theorem dX6_recordFailure_0 : decode cX6_recordFailure 0 = .ok (.aload_n 1, 1) := by decide +kernel
theorem dX6_recordFailure_1 : decode cX6_recordFailure 1 = .ok (.dup, 1) := by decide +kernel
theorem dX6_recordFailure_2 : decode cX6_recordFailure 2 = .ok (.getfield 182, 3) := by decide +kernel
theorem dX6_recordFailure_5 : decode cX6_recordFailure 5 = .ok (.iconst 1, 1) := by decide +kernel
theorem dX6_recordFailure_6 : decode cX6_recordFailure 6 = .ok (.iadd, 1) := by decide +kernel
theorem dX6_recordFailure_7 : decode cX6_recordFailure 7 = .ok (.putfield 182, 3) := by decide +kernel
theorem dX6_recordFailure_10 : decode cX6_recordFailure 10 = .ok (.aload_n 1, 1) := by decide +kernel
theorem dX6_recordFailure_11 : decode cX6_recordFailure 11 = .ok (.iload_n 3, 1) := by decide +kernel
theorem dX6_recordFailure_12 : decode cX6_recordFailure 12 = .ok (.invokevirtual 185, 3) := by decide +kernel
theorem dX6_recordFailure_15 : decode cX6_recordFailure 15 = .ok (.iload_n 3, 1) := by decide +kernel
theorem dX6_recordFailure_16 : decode cX6_recordFailure 16 = .ok (.iconst 5, 1) := by decide +kernel
theorem dX6_recordFailure_17 : decode cX6_recordFailure 17 = .ok (.if_icmp .eq 16, 3) := by decide +kernel
theorem dX6_recordFailure_20 : decode cX6_recordFailure 20 = .ok (.aload_n 1, 1) := by decide +kernel
theorem dX6_recordFailure_21 : decode cX6_recordFailure 21 = .ok (.getfield 182, 3) := by decide +kernel
theorem dX6_recordFailure_24 : decode cX6_recordFailure 24 = .ok (.aload_n 0, 1) := by decide +kernel
theorem dX6_recordFailure_25 : decode cX6_recordFailure 25 = .ok (.getfield 33, 3) := by decide +kernel
theorem dX6_recordFailure_28 : decode cX6_recordFailure 28 = .ok (.iconst 4, 1) := by decide +kernel
theorem dX6_recordFailure_29 : decode cX6_recordFailure 29 = .ok (.iaload, 1) := by decide +kernel
theorem dX6_recordFailure_30 : decode cX6_recordFailure 30 = .ok (.if_icmp .lt 9, 3) := by decide +kernel
theorem dX6_recordFailure_33 : decode cX6_recordFailure 33 = .ok (.aload_n 1, 1) := by decide +kernel
theorem dX6_recordFailure_34 : decode cX6_recordFailure 34 = .ok (.iconst 3, 1) := by decide +kernel
theorem dX6_recordFailure_35 : decode cX6_recordFailure 35 = .ok (.putfield 141, 3) := by decide +kernel
theorem dX6_recordFailure_38 : decode cX6_recordFailure 38 = .ok (.return_, 1) := by decide +kernel
theorem dX6_recordFailure_39 : decode cX6_recordFailure 39 = .ok (.aload_n 1, 1) := by decide +kernel
theorem dX6_recordFailure_40 : decode cX6_recordFailure 40 = .ok (.iconst 0, 1) := by decide +kernel
theorem dX6_recordFailure_41 : decode cX6_recordFailure 41 = .ok (.putfield 141, 3) := by decide +kernel
theorem dX6_recordFailure_44 : decode cX6_recordFailure 44 = .ok (.aload_n 1, 1) := by decide +kernel
theorem dX6_recordFailure_45 : decode cX6_recordFailure 45 = .ok (.aload_n 0, 1) := by decide +kernel
theorem dX6_recordFailure_46 : decode cX6_recordFailure 46 = .ok (.getfield 78, 3) := by decide +kernel
theorem dX6_recordFailure_49 : decode cX6_recordFailure 49 = .ok (.aload_n 0, 1) := by decide +kernel
theorem dX6_recordFailure_50 : decode cX6_recordFailure 50 = .ok (.iload_n 2, 1) := by decide +kernel
theorem dX6_recordFailure_51 : decode cX6_recordFailure 51 = .ok (.aload_n 1, 1) := by decide +kernel
theorem dX6_recordFailure_52 : decode cX6_recordFailure 52 = .ok (.getfield 182, 3) := by decide +kernel
theorem dX6_recordFailure_55 : decode cX6_recordFailure 55 = .ok (.invokevirtual 188, 3) := by decide +kernel
theorem dX6_recordFailure_58 : decode cX6_recordFailure 58 = .ok (.iadd, 1) := by decide +kernel
theorem dX6_recordFailure_59 : decode cX6_recordFailure 59 = .ok (.putfield 192, 3) := by decide +kernel
theorem dX6_recordFailure_62 : decode cX6_recordFailure 62 = .ok (.return_, 1) := by decide +kernel
theorem dX6_waitOf_0 : decode cX6_waitOf 0 = .ok (.aload_n 0, 1) := by decide +kernel
theorem dX6_waitOf_1 : decode cX6_waitOf 1 = .ok (.getfield 33, 3) := by decide +kernel
theorem dX6_waitOf_4 : decode cX6_waitOf 4 = .ok (.iconst 1, 1) := by decide +kernel
theorem dX6_waitOf_5 : decode cX6_waitOf 5 = .ok (.iaload, 1) := by decide +kernel
theorem dX6_waitOf_6 : decode cX6_waitOf 6 = .ok (.istore_n 3, 1) := by decide +kernel
theorem dX6_waitOf_7 : decode cX6_waitOf 7 = .ok (.iconst 1, 1) := by decide +kernel
theorem dX6_waitOf_8 : decode cX6_waitOf 8 = .ok (.istore 4, 2) := by decide +kernel
theorem dX6_waitOf_10 : decode cX6_waitOf 10 = .ok (.iload 4, 2) := by decide +kernel
theorem dX6_waitOf_12 : decode cX6_waitOf 12 = .ok (.iload_n 2, 1) := by decide +kernel
theorem dX6_waitOf_13 : decode cX6_waitOf 13 = .ok (.if_icmp .ge 23, 3) := by decide +kernel
theorem dX6_waitOf_16 : decode cX6_waitOf 16 = .ok (.iload_n 3, 1) := by decide +kernel
theorem dX6_waitOf_17 : decode cX6_waitOf 17 = .ok (.aload_n 0, 1) := by decide +kernel
theorem dX6_waitOf_18 : decode cX6_waitOf 18 = .ok (.getfield 33, 3) := by decide +kernel
theorem dX6_waitOf_21 : decode cX6_waitOf 21 = .ok (.iconst 2, 1) := by decide +kernel
theorem dX6_waitOf_22 : decode cX6_waitOf 22 = .ok (.iaload, 1) := by decide +kernel
theorem dX6_waitOf_23 : decode cX6_waitOf 23 = .ok (.if_icmp .ge 13, 3) := by decide +kernel
theorem dX6_waitOf_26 : decode cX6_waitOf 26 = .ok (.iload_n 3, 1) := by decide +kernel
theorem dX6_waitOf_27 : decode cX6_waitOf 27 = .ok (.iconst 2, 1) := by decide +kernel
theorem dX6_waitOf_28 : decode cX6_waitOf 28 = .ok (.imul, 1) := by decide +kernel
theorem dX6_waitOf_29 : decode cX6_waitOf 29 = .ok (.istore_n 3, 1) := by decide +kernel
theorem dX6_waitOf_30 : decode cX6_waitOf 30 = .ok (.iinc 4 1, 3) := by decide +kernel
theorem dX6_waitOf_33 : decode cX6_waitOf 33 = .ok (.goto (-23), 3) := by decide +kernel
theorem dX6_waitOf_36 : decode cX6_waitOf 36 = .ok (.iload_n 3, 1) := by decide +kernel
theorem dX6_waitOf_37 : decode cX6_waitOf 37 = .ok (.aload_n 0, 1) := by decide +kernel
theorem dX6_waitOf_38 : decode cX6_waitOf 38 = .ok (.getfield 33, 3) := by decide +kernel
theorem dX6_waitOf_41 : decode cX6_waitOf 41 = .ok (.iconst 2, 1) := by decide +kernel
theorem dX6_waitOf_42 : decode cX6_waitOf 42 = .ok (.iaload, 1) := by decide +kernel
theorem dX6_waitOf_43 : decode cX6_waitOf 43 = .ok (.invokestatic 195, 3) := by decide +kernel
theorem dX6_waitOf_46 : decode cX6_waitOf 46 = .ok (.istore_n 3, 1) := by decide +kernel
theorem dX6_waitOf_47 : decode cX6_waitOf 47 = .ok (.aload_n 0, 1) := by decide +kernel
theorem dX6_waitOf_48 : decode cX6_waitOf 48 = .ok (.getfield 33, 3) := by decide +kernel
theorem dX6_waitOf_51 : decode cX6_waitOf 51 = .ok (.iconst 3, 1) := by decide +kernel
theorem dX6_waitOf_52 : decode cX6_waitOf 52 = .ok (.iaload, 1) := by decide +kernel
theorem dX6_waitOf_53 : decode cX6_waitOf 53 = .ok (.iconst 1, 1) := by decide +kernel
theorem dX6_waitOf_54 : decode cX6_waitOf 54 = .ok (.iadd, 1) := by decide +kernel
theorem dX6_waitOf_55 : decode cX6_waitOf 55 = .ok (.istore 4, 2) := by decide +kernel
theorem dX6_waitOf_57 : decode cX6_waitOf 57 = .ok (.iload 4, 2) := by decide +kernel
theorem dX6_waitOf_59 : decode cX6_waitOf 59 = .ok (.iconst 1, 1) := by decide +kernel
theorem dX6_waitOf_60 : decode cX6_waitOf 60 = .ok (.if_icmp .ge 7, 3) := by decide +kernel
theorem dX6_waitOf_63 : decode cX6_waitOf 63 = .ok (.iload_n 3, 1) := by decide +kernel
theorem dX6_waitOf_64 : decode cX6_waitOf 64 = .ok (.goto 16, 3) := by decide +kernel
theorem dX6_waitOf_67 : decode cX6_waitOf 67 = .ok (.iload_n 3, 1) := by decide +kernel
theorem dX6_waitOf_68 : decode cX6_waitOf 68 = .ok (.bipush 7, 2) := by decide +kernel
theorem dX6_waitOf_70 : decode cX6_waitOf 70 = .ok (.iload_n 1, 1) := by decide +kernel
theorem dX6_waitOf_71 : decode cX6_waitOf 71 = .ok (.imul, 1) := by decide +kernel
theorem dX6_waitOf_72 : decode cX6_waitOf 72 = .ok (.iconst 3, 1) := by decide +kernel
theorem dX6_waitOf_73 : decode cX6_waitOf 73 = .ok (.iload_n 2, 1) := by decide +kernel
theorem dX6_waitOf_74 : decode cX6_waitOf 74 = .ok (.imul, 1) := by decide +kernel
theorem dX6_waitOf_75 : decode cX6_waitOf 75 = .ok (.iadd, 1) := by decide +kernel
theorem dX6_waitOf_76 : decode cX6_waitOf 76 = .ok (.iload 4, 2) := by decide +kernel
theorem dX6_waitOf_78 : decode cX6_waitOf 78 = .ok (.irem, 1) := by decide +kernel
theorem dX6_waitOf_79 : decode cX6_waitOf 79 = .ok (.iadd, 1) := by decide +kernel
theorem dX6_waitOf_80 : decode cX6_waitOf 80 = .ok (.ireturn, 1) := by decide +kernel
theorem dX6_tryTime_0 : decode cX6_tryTime 0 = .ok (.aload_n 1, 1) := by decide +kernel
theorem dX6_tryTime_1 : decode cX6_tryTime 1 = .ok (.getfield 141, 3) := by decide +kernel
theorem dX6_tryTime_4 : decode cX6_tryTime 4 = .ok (.ifCond .ne 8, 3) := by decide +kernel
theorem dX6_tryTime_7 : decode cX6_tryTime 7 = .ok (.iload_n 3, 1) := by decide +kernel
theorem dX6_tryTime_8 : decode cX6_tryTime 8 = .ok (.iconst 1, 1) := by decide +kernel
theorem dX6_tryTime_9 : decode cX6_tryTime 9 = .ok (.if_icmp .ge 5, 3) := by decide +kernel
theorem dX6_tryTime_12 : decode cX6_tryTime 12 = .ok (.iconst (-1), 1) := by decide +kernel
theorem dX6_tryTime_13 : decode cX6_tryTime 13 = .ok (.ireturn, 1) := by decide +kernel
theorem dX6_tryTime_14 : decode cX6_tryTime 14 = .ok (.aload_n 1, 1) := by decide +kernel
theorem dX6_tryTime_15 : decode cX6_tryTime 15 = .ok (.getfield 192, 3) := by decide +kernel
theorem dX6_tryTime_18 : decode cX6_tryTime 18 = .ok (.aload_n 0, 1) := by decide +kernel
theorem dX6_tryTime_19 : decode cX6_tryTime 19 = .ok (.getfield 78, 3) := by decide +kernel
theorem dX6_tryTime_22 : decode cX6_tryTime 22 = .ok (.invokestatic 200, 3) := by decide +kernel
theorem dX6_tryTime_25 : decode cX6_tryTime 25 = .ok (.istore 4, 2) := by decide +kernel
theorem dX6_tryTime_27 : decode cX6_tryTime 27 = .ok (.aload_n 1, 1) := by decide +kernel
theorem dX6_tryTime_28 : decode cX6_tryTime 28 = .ok (.getfield 182, 3) := by decide +kernel
theorem dX6_tryTime_31 : decode cX6_tryTime 31 = .ok (.istore 5, 2) := by decide +kernel
theorem dX6_tryTime_33 : decode cX6_tryTime 33 = .ok (.iconst 1, 1) := by decide +kernel
theorem dX6_tryTime_34 : decode cX6_tryTime 34 = .ok (.istore 6, 2) := by decide +kernel
theorem dX6_tryTime_36 : decode cX6_tryTime 36 = .ok (.iload 6, 2) := by decide +kernel
theorem dX6_tryTime_38 : decode cX6_tryTime 38 = .ok (.iload_n 3, 1) := by decide +kernel
theorem dX6_tryTime_39 : decode cX6_tryTime 39 = .ok (.if_icmp .ge 37, 3) := by decide +kernel
theorem dX6_tryTime_42 : decode cX6_tryTime 42 = .ok (.iinc 5 1, 3) := by decide +kernel
theorem dX6_tryTime_45 : decode cX6_tryTime 45 = .ok (.iload 5, 2) := by decide +kernel
theorem dX6_tryTime_47 : decode cX6_tryTime 47 = .ok (.aload_n 0, 1) := by decide +kernel
theorem dX6_tryTime_48 : decode cX6_tryTime 48 = .ok (.getfield 33, 3) := by decide +kernel
theorem dX6_tryTime_51 : decode cX6_tryTime 51 = .ok (.iconst 4, 1) := by decide +kernel
theorem dX6_tryTime_52 : decode cX6_tryTime 52 = .ok (.iaload, 1) := by decide +kernel
theorem dX6_tryTime_53 : decode cX6_tryTime 53 = .ok (.if_icmp .lt 5, 3) := by decide +kernel
theorem dX6_tryTime_56 : decode cX6_tryTime 56 = .ok (.iconst (-1), 1) := by decide +kernel
theorem dX6_tryTime_57 : decode cX6_tryTime 57 = .ok (.ireturn, 1) := by decide +kernel
theorem dX6_tryTime_58 : decode cX6_tryTime 58 = .ok (.iload 4, 2) := by decide +kernel
theorem dX6_tryTime_60 : decode cX6_tryTime 60 = .ok (.aload_n 0, 1) := by decide +kernel
theorem dX6_tryTime_61 : decode cX6_tryTime 61 = .ok (.iload_n 2, 1) := by decide +kernel
theorem dX6_tryTime_62 : decode cX6_tryTime 62 = .ok (.iload 5, 2) := by decide +kernel
theorem dX6_tryTime_64 : decode cX6_tryTime 64 = .ok (.invokevirtual 188, 3) := by decide +kernel
theorem dX6_tryTime_67 : decode cX6_tryTime 67 = .ok (.iadd, 1) := by decide +kernel
theorem dX6_tryTime_68 : decode cX6_tryTime 68 = .ok (.istore 4, 2) := by decide +kernel
theorem dX6_tryTime_70 : decode cX6_tryTime 70 = .ok (.iinc 6 1, 3) := by decide +kernel
theorem dX6_tryTime_73 : decode cX6_tryTime 73 = .ok (.goto (-37), 3) := by decide +kernel
theorem dX6_tryTime_76 : decode cX6_tryTime 76 = .ok (.iload 4, 2) := by decide +kernel
theorem dX6_tryTime_78 : decode cX6_tryTime 78 = .ok (.ireturn, 1) := by decide +kernel
theorem dX6_reapLate_0 : decode cX6_reapLate 0 = .ok (.iconst 0, 1) := by decide +kernel
theorem dX6_reapLate_1 : decode cX6_reapLate 1 = .ok (.istore_n 2, 1) := by decide +kernel
theorem dX6_reapLate_2 : decode cX6_reapLate 2 = .ok (.iconst 0, 1) := by decide +kernel
theorem dX6_reapLate_3 : decode cX6_reapLate 3 = .ok (.istore_n 3, 1) := by decide +kernel
theorem dX6_reapLate_4 : decode cX6_reapLate 4 = .ok (.iload_n 3, 1) := by decide +kernel
theorem dX6_reapLate_5 : decode cX6_reapLate 5 = .ok (.aload_n 0, 1) := by decide +kernel
theorem dX6_reapLate_6 : decode cX6_reapLate 6 = .ok (.getfield 46, 3) := by decide +kernel
theorem dX6_reapLate_9 : decode cX6_reapLate 9 = .ok (.if_icmp .ge 80, 3) := by decide +kernel
theorem dX6_reapLate_12 : decode cX6_reapLate 12 = .ok (.aload_n 0, 1) := by decide +kernel
theorem dX6_reapLate_13 : decode cX6_reapLate 13 = .ok (.getfield 11, 3) := by decide +kernel
theorem dX6_reapLate_16 : decode cX6_reapLate 16 = .ok (.iload_n 3, 1) := by decide +kernel
theorem dX6_reapLate_17 : decode cX6_reapLate 17 = .ok (.aaload, 1) := by decide +kernel
theorem dX6_reapLate_18 : decode cX6_reapLate 18 = .ok (.astore 4, 2) := by decide +kernel
theorem dX6_reapLate_20 : decode cX6_reapLate 20 = .ok (.aload 4, 2) := by decide +kernel
theorem dX6_reapLate_22 : decode cX6_reapLate 22 = .ok (.iload_n 1, 1) := by decide +kernel
theorem dX6_reapLate_23 : decode cX6_reapLate 23 = .ok (.invokevirtual 137, 3) := by decide +kernel
theorem dX6_reapLate_26 : decode cX6_reapLate 26 = .ok (.ifCond .eq 16, 3) := by decide +kernel
theorem dX6_reapLate_29 : decode cX6_reapLate 29 = .ok (.aload 4, 2) := by decide +kernel
theorem dX6_reapLate_31 : decode cX6_reapLate 31 = .ok (.iload_n 1, 1) := by decide +kernel
theorem dX6_reapLate_32 : decode cX6_reapLate 32 = .ok (.invokevirtual 203, 3) := by decide +kernel
theorem dX6_reapLate_35 : decode cX6_reapLate 35 = .ok (.ifCond .ne 7, 3) := by decide +kernel
theorem dX6_reapLate_38 : decode cX6_reapLate 38 = .ok (.iconst 1, 1) := by decide +kernel
theorem dX6_reapLate_39 : decode cX6_reapLate 39 = .ok (.goto 4, 3) := by decide +kernel
theorem dX6_reapLate_42 : decode cX6_reapLate 42 = .ok (.iconst 0, 1) := by decide +kernel
theorem dX6_reapLate_43 : decode cX6_reapLate 43 = .ok (.istore 5, 2) := by decide +kernel
theorem dX6_reapLate_45 : decode cX6_reapLate 45 = .ok (.iload 5, 2) := by decide +kernel
theorem dX6_reapLate_47 : decode cX6_reapLate 47 = .ok (.ifCond .eq 36, 3) := by decide +kernel
theorem dX6_reapLate_50 : decode cX6_reapLate 50 = .ok (.aload_n 0, 1) := by decide +kernel
theorem dX6_reapLate_51 : decode cX6_reapLate 51 = .ok (.aload 4, 2) := by decide +kernel
theorem dX6_reapLate_53 : decode cX6_reapLate 53 = .ok (.iload_n 1, 1) := by decide +kernel
theorem dX6_reapLate_54 : decode cX6_reapLate 54 = .ok (.invokevirtual 206, 3) := by decide +kernel
theorem dX6_reapLate_57 : decode cX6_reapLate 57 = .ok (.invokevirtual 210, 3) := by decide +kernel
theorem dX6_reapLate_60 : decode cX6_reapLate 60 = .ok (.ifCond .eq 23, 3) := by decide +kernel
theorem dX6_reapLate_63 : decode cX6_reapLate 63 = .ok (.aload_n 0, 1) := by decide +kernel
theorem dX6_reapLate_64 : decode cX6_reapLate 64 = .ok (.aload 4, 2) := by decide +kernel
theorem dX6_reapLate_66 : decode cX6_reapLate 66 = .ok (.iload_n 1, 1) := by decide +kernel
theorem dX6_reapLate_67 : decode cX6_reapLate 67 = .ok (.invokevirtual 214, 3) := by decide +kernel
theorem dX6_reapLate_70 : decode cX6_reapLate 70 = .ok (.aload 4, 2) := by decide +kernel
theorem dX6_reapLate_72 : decode cX6_reapLate 72 = .ok (.getfield 96, 3) := by decide +kernel
theorem dX6_reapLate_75 : decode cX6_reapLate 75 = .ok (.bipush 6, 2) := by decide +kernel
theorem dX6_reapLate_77 : decode cX6_reapLate 77 = .ok (.invokevirtual 217, 3) := by decide +kernel
theorem dX6_reapLate_80 : decode cX6_reapLate 80 = .ok (.iinc 2 1, 3) := by decide +kernel
theorem dX6_reapLate_83 : decode cX6_reapLate 83 = .ok (.iinc 3 1, 3) := by decide +kernel
theorem dX6_reapLate_86 : decode cX6_reapLate 86 = .ok (.goto (-82), 3) := by decide +kernel
theorem dX6_reapLate_89 : decode cX6_reapLate 89 = .ok (.iload_n 2, 1) := by decide +kernel
theorem dX6_reapLate_90 : decode cX6_reapLate 90 = .ok (.ireturn, 1) := by decide +kernel
theorem dX6_isLate_0 : decode cX6_isLate 0 = .ok (.aload_n 1, 1) := by decide +kernel
theorem dX6_isLate_1 : decode cX6_isLate 1 = .ok (.getfield 141, 3) := by decide +kernel
theorem dX6_isLate_4 : decode cX6_isLate 4 = .ok (.iconst 1, 1) := by decide +kernel
theorem dX6_isLate_5 : decode cX6_isLate 5 = .ok (.if_icmp .ne 18, 3) := by decide +kernel
theorem dX6_isLate_8 : decode cX6_isLate 8 = .ok (.aload_n 1, 1) := by decide +kernel
theorem dX6_isLate_9 : decode cX6_isLate 9 = .ok (.getfield 221, 3) := by decide +kernel
theorem dX6_isLate_12 : decode cX6_isLate 12 = .ok (.aload_n 0, 1) := by decide +kernel
theorem dX6_isLate_13 : decode cX6_isLate 13 = .ok (.getfield 78, 3) := by decide +kernel
theorem dX6_isLate_16 : decode cX6_isLate 16 = .ok (.if_icmp .ge 7, 3) := by decide +kernel
theorem dX6_isLate_19 : decode cX6_isLate 19 = .ok (.iconst 1, 1) := by decide +kernel
theorem dX6_isLate_20 : decode cX6_isLate 20 = .ok (.goto 4, 3) := by decide +kernel
theorem dX6_isLate_23 : decode cX6_isLate 23 = .ok (.iconst 0, 1) := by decide +kernel
theorem dX6_isLate_24 : decode cX6_isLate 24 = .ok (.ireturn, 1) := by decide +kernel
theorem dX6_tickTimes_0 : decode cX6_tickTimes 0 = .ok (.aload_n 0, 1) := by decide +kernel
theorem dX6_tickTimes_1 : decode cX6_tickTimes 1 = .ok (.getfield 87, 3) := by decide +kernel
theorem dX6_tickTimes_4 : decode cX6_tickTimes 4 = .ok (.istore_n 2, 1) := by decide +kernel
theorem dX6_tickTimes_5 : decode cX6_tickTimes 5 = .ok (.iconst 0, 1) := by decide +kernel
theorem dX6_tickTimes_6 : decode cX6_tickTimes 6 = .ok (.istore_n 3, 1) := by decide +kernel
theorem dX6_tickTimes_7 : decode cX6_tickTimes 7 = .ok (.iload_n 3, 1) := by decide +kernel
theorem dX6_tickTimes_8 : decode cX6_tickTimes 8 = .ok (.iload_n 1, 1) := by decide +kernel
theorem dX6_tickTimes_9 : decode cX6_tickTimes 9 = .ok (.if_icmp .ge 45, 3) := by decide +kernel
theorem dX6_tickTimes_12 : decode cX6_tickTimes 12 = .ok (.aload_n 0, 1) := by decide +kernel
theorem dX6_tickTimes_13 : decode cX6_tickTimes 13 = .ok (.aload_n 0, 1) := by decide +kernel
theorem dX6_tickTimes_14 : decode cX6_tickTimes 14 = .ok (.getfield 78, 3) := by decide +kernel
theorem dX6_tickTimes_17 : decode cX6_tickTimes 17 = .ok (.iconst 1, 1) := by decide +kernel
theorem dX6_tickTimes_18 : decode cX6_tickTimes 18 = .ok (.iadd, 1) := by decide +kernel
theorem dX6_tickTimes_19 : decode cX6_tickTimes 19 = .ok (.sipush 9999, 3) := by decide +kernel
theorem dX6_tickTimes_22 : decode cX6_tickTimes 22 = .ok (.invokestatic 195, 3) := by decide +kernel
theorem dX6_tickTimes_25 : decode cX6_tickTimes 25 = .ok (.putfield 78, 3) := by decide +kernel
theorem dX6_tickTimes_28 : decode cX6_tickTimes 28 = .ok (.aload_n 0, 1) := by decide +kernel
theorem dX6_tickTimes_29 : decode cX6_tickTimes 29 = .ok (.aload_n 0, 1) := by decide +kernel
theorem dX6_tickTimes_30 : decode cX6_tickTimes 30 = .ok (.getfield 81, 3) := by decide +kernel
theorem dX6_tickTimes_33 : decode cX6_tickTimes 33 = .ok (.iconst 1, 1) := by decide +kernel
theorem dX6_tickTimes_34 : decode cX6_tickTimes 34 = .ok (.iadd, 1) := by decide +kernel
theorem dX6_tickTimes_35 : decode cX6_tickTimes 35 = .ok (.sipush 9999, 3) := by decide +kernel
theorem dX6_tickTimes_38 : decode cX6_tickTimes 38 = .ok (.invokestatic 195, 3) := by decide +kernel
theorem dX6_tickTimes_41 : decode cX6_tickTimes 41 = .ok (.putfield 81, 3) := by decide +kernel
theorem dX6_tickTimes_44 : decode cX6_tickTimes 44 = .ok (.aload_n 0, 1) := by decide +kernel
theorem dX6_tickTimes_45 : decode cX6_tickTimes 45 = .ok (.invokevirtual 224, 3) := by decide +kernel
theorem dX6_tickTimes_48 : decode cX6_tickTimes 48 = .ok (.iinc 3 1, 3) := by decide +kernel
theorem dX6_tickTimes_51 : decode cX6_tickTimes 51 = .ok (.goto (-44), 3) := by decide +kernel
theorem dX6_tickTimes_54 : decode cX6_tickTimes 54 = .ok (.aload_n 0, 1) := by decide +kernel
theorem dX6_tickTimes_55 : decode cX6_tickTimes 55 = .ok (.getfield 87, 3) := by decide +kernel
theorem dX6_tickTimes_58 : decode cX6_tickTimes 58 = .ok (.iload_n 2, 1) := by decide +kernel
theorem dX6_tickTimes_59 : decode cX6_tickTimes 59 = .ok (.isub, 1) := by decide +kernel
theorem dX6_tickTimes_60 : decode cX6_tickTimes 60 = .ok (.ireturn, 1) := by decide +kernel
theorem dX6_jumpBy_0 : decode cX6_jumpBy 0 = .ok (.aload_n 0, 1) := by decide +kernel
theorem dX6_jumpBy_1 : decode cX6_jumpBy 1 = .ok (.getfield 87, 3) := by decide +kernel
theorem dX6_jumpBy_4 : decode cX6_jumpBy 4 = .ok (.istore_n 2, 1) := by decide +kernel
theorem dX6_jumpBy_5 : decode cX6_jumpBy 5 = .ok (.aload_n 0, 1) := by decide +kernel
theorem dX6_jumpBy_6 : decode cX6_jumpBy 6 = .ok (.iconst 0, 1) := by decide +kernel
theorem dX6_jumpBy_7 : decode cX6_jumpBy 7 = .ok (.aload_n 0, 1) := by decide +kernel
theorem dX6_jumpBy_8 : decode cX6_jumpBy 8 = .ok (.getfield 81, 3) := by decide +kernel
theorem dX6_jumpBy_11 : decode cX6_jumpBy 11 = .ok (.iload_n 1, 1) := by decide +kernel
theorem dX6_jumpBy_12 : decode cX6_jumpBy 12 = .ok (.iadd, 1) := by decide +kernel
theorem dX6_jumpBy_13 : decode cX6_jumpBy 13 = .ok (.sipush 9999, 3) := by decide +kernel
theorem dX6_jumpBy_16 : decode cX6_jumpBy 16 = .ok (.invokestatic 195, 3) := by decide +kernel
theorem dX6_jumpBy_19 : decode cX6_jumpBy 19 = .ok (.invokestatic 200, 3) := by decide +kernel
theorem dX6_jumpBy_22 : decode cX6_jumpBy 22 = .ok (.putfield 81, 3) := by decide +kernel
theorem dX6_jumpBy_25 : decode cX6_jumpBy 25 = .ok (.aload_n 0, 1) := by decide +kernel
theorem dX6_jumpBy_26 : decode cX6_jumpBy 26 = .ok (.invokevirtual 224, 3) := by decide +kernel
theorem dX6_jumpBy_29 : decode cX6_jumpBy 29 = .ok (.aload_n 0, 1) := by decide +kernel
theorem dX6_jumpBy_30 : decode cX6_jumpBy 30 = .ok (.getfield 87, 3) := by decide +kernel
theorem dX6_jumpBy_33 : decode cX6_jumpBy 33 = .ok (.iload_n 2, 1) := by decide +kernel
theorem dX6_jumpBy_34 : decode cX6_jumpBy 34 = .ok (.isub, 1) := by decide +kernel
theorem dX6_jumpBy_35 : decode cX6_jumpBy 35 = .ok (.ireturn, 1) := by decide +kernel
theorem dX6_lookAtSchedules_0 : decode cX6_lookAtSchedules 0 = .ok (.iconst 0, 1) := by decide +kernel
theorem dX6_lookAtSchedules_1 : decode cX6_lookAtSchedules 1 = .ok (.istore_n 1, 1) := by decide +kernel
theorem dX6_lookAtSchedules_2 : decode cX6_lookAtSchedules 2 = .ok (.iload_n 1, 1) := by decide +kernel
theorem dX6_lookAtSchedules_3 : decode cX6_lookAtSchedules 3 = .ok (.aload_n 0, 1) := by decide +kernel
theorem dX6_lookAtSchedules_4 : decode cX6_lookAtSchedules 4 = .ok (.getfield 60, 3) := by decide +kernel
theorem dX6_lookAtSchedules_7 : decode cX6_lookAtSchedules 7 = .ok (.if_icmp .ge 68, 3) := by decide +kernel
theorem dX6_lookAtSchedules_10 : decode cX6_lookAtSchedules 10 = .ok (.aload_n 0, 1) := by decide +kernel
theorem dX6_lookAtSchedules_11 : decode cX6_lookAtSchedules 11 = .ok (.getfield 25, 3) := by decide +kernel
theorem dX6_lookAtSchedules_14 : decode cX6_lookAtSchedules 14 = .ok (.iload_n 1, 1) := by decide +kernel
theorem dX6_lookAtSchedules_15 : decode cX6_lookAtSchedules 15 = .ok (.aaload, 1) := by decide +kernel
theorem dX6_lookAtSchedules_16 : decode cX6_lookAtSchedules 16 = .ok (.astore_n 2, 1) := by decide +kernel
theorem dX6_lookAtSchedules_17 : decode cX6_lookAtSchedules 17 = .ok (.aload_n 2, 1) := by decide +kernel
theorem dX6_lookAtSchedules_18 : decode cX6_lookAtSchedules 18 = .ok (.aload_n 0, 1) := by decide +kernel
theorem dX6_lookAtSchedules_19 : decode cX6_lookAtSchedules 19 = .ok (.getfield 81, 3) := by decide +kernel
theorem dX6_lookAtSchedules_22 : decode cX6_lookAtSchedules 22 = .ok (.invokevirtual 227, 3) := by decide +kernel
theorem dX6_lookAtSchedules_25 : decode cX6_lookAtSchedules 25 = .ok (.istore_n 3, 1) := by decide +kernel
theorem dX6_lookAtSchedules_26 : decode cX6_lookAtSchedules 26 = .ok (.iload_n 3, 1) := by decide +kernel
theorem dX6_lookAtSchedules_27 : decode cX6_lookAtSchedules 27 = .ok (.aload_n 2, 1) := by decide +kernel
theorem dX6_lookAtSchedules_28 : decode cX6_lookAtSchedules 28 = .ok (.getfield 230, 3) := by decide +kernel
theorem dX6_lookAtSchedules_31 : decode cX6_lookAtSchedules 31 = .ok (.if_icmp .le 38, 3) := by decide +kernel
theorem dX6_lookAtSchedules_34 : decode cX6_lookAtSchedules 34 = .ok (.aload_n 2, 1) := by decide +kernel
theorem dX6_lookAtSchedules_35 : decode cX6_lookAtSchedules 35 = .ok (.iload_n 3, 1) := by decide +kernel
theorem dX6_lookAtSchedules_36 : decode cX6_lookAtSchedules 36 = .ok (.aload_n 0, 1) := by decide +kernel
theorem dX6_lookAtSchedules_37 : decode cX6_lookAtSchedules 37 = .ok (.getfield 81, 3) := by decide +kernel
theorem dX6_lookAtSchedules_40 : decode cX6_lookAtSchedules 40 = .ok (.invokevirtual 231, 3) := by decide +kernel
theorem dX6_lookAtSchedules_43 : decode cX6_lookAtSchedules 43 = .ok (.istore 4, 2) := by decide +kernel
theorem dX6_lookAtSchedules_45 : decode cX6_lookAtSchedules 45 = .ok (.iload 4, 2) := by decide +kernel
theorem dX6_lookAtSchedules_47 : decode cX6_lookAtSchedules 47 = .ok (.iload_n 3, 1) := by decide +kernel
theorem dX6_lookAtSchedules_48 : decode cX6_lookAtSchedules 48 = .ok (.if_icmp .gt 16, 3) := by decide +kernel
theorem dX6_lookAtSchedules_51 : decode cX6_lookAtSchedules 51 = .ok (.aload_n 0, 1) := by decide +kernel
theorem dX6_lookAtSchedules_52 : decode cX6_lookAtSchedules 52 = .ok (.iload_n 1, 1) := by decide +kernel
theorem dX6_lookAtSchedules_53 : decode cX6_lookAtSchedules 53 = .ok (.iload 4, 2) := by decide +kernel
theorem dX6_lookAtSchedules_55 : decode cX6_lookAtSchedules 55 = .ok (.invokevirtual 234, 3) := by decide +kernel
theorem dX6_lookAtSchedules_58 : decode cX6_lookAtSchedules 58 = .ok (.iinc 4 1, 3) := by decide +kernel
theorem dX6_lookAtSchedules_61 : decode cX6_lookAtSchedules 61 = .ok (.goto (-16), 3) := by decide +kernel
theorem dX6_lookAtSchedules_64 : decode cX6_lookAtSchedules 64 = .ok (.aload_n 2, 1) := by decide +kernel
theorem dX6_lookAtSchedules_65 : decode cX6_lookAtSchedules 65 = .ok (.iload_n 3, 1) := by decide +kernel
theorem dX6_lookAtSchedules_66 : decode cX6_lookAtSchedules 66 = .ok (.putfield 230, 3) := by decide +kernel
theorem dX6_lookAtSchedules_69 : decode cX6_lookAtSchedules 69 = .ok (.iinc 1 1, 3) := by decide +kernel
theorem dX6_lookAtSchedules_72 : decode cX6_lookAtSchedules 72 = .ok (.goto (-70), 3) := by decide +kernel
theorem dX6_lookAtSchedules_75 : decode cX6_lookAtSchedules 75 = .ok (.return_, 1) := by decide +kernel
theorem dX6_fire_0 : decode cX6_fire 0 = .ok (.aload_n 0, 1) := by decide +kernel
theorem dX6_fire_1 : decode cX6_fire 1 = .ok (.getfield 25, 3) := by decide +kernel
theorem dX6_fire_4 : decode cX6_fire 4 = .ok (.iload_n 1, 1) := by decide +kernel
theorem dX6_fire_5 : decode cX6_fire 5 = .ok (.aaload, 1) := by decide +kernel
theorem dX6_fire_6 : decode cX6_fire 6 = .ok (.astore_n 3, 1) := by decide +kernel
theorem dX6_fire_7 : decode cX6_fire 7 = .ok (.aload_n 0, 1) := by decide +kernel
theorem dX6_fire_8 : decode cX6_fire 8 = .ok (.aload_n 3, 1) := by decide +kernel
theorem dX6_fire_9 : decode cX6_fire 9 = .ok (.getfield 238, 3) := by decide +kernel
theorem dX6_fire_12 : decode cX6_fire 12 = .ok (.aload_n 3, 1) := by decide +kernel
theorem dX6_fire_13 : decode cX6_fire 13 = .ok (.getfield 239, 3) := by decide +kernel
theorem dX6_fire_16 : decode cX6_fire 16 = .ok (.aload_n 3, 1) := by decide +kernel
theorem dX6_fire_17 : decode cX6_fire 17 = .ok (.getfield 240, 3) := by decide +kernel
theorem dX6_fire_20 : decode cX6_fire 20 = .ok (.invokevirtual 241, 3) := by decide +kernel
theorem dX6_fire_23 : decode cX6_fire 23 = .ok (.astore 4, 2) := by decide +kernel
theorem dX6_fire_25 : decode cX6_fire 25 = .ok (.aload 4, 2) := by decide +kernel
theorem dX6_fire_27 : decode cX6_fire 27 = .ok (.ifnonnull 14, 3) := by decide +kernel
theorem dX6_fire_30 : decode cX6_fire 30 = .ok (.aload_n 0, 1) := by decide +kernel
theorem dX6_fire_31 : decode cX6_fire 31 = .ok (.dup, 1) := by decide +kernel
theorem dX6_fire_32 : decode cX6_fire 32 = .ok (.getfield 90, 3) := by decide +kernel
theorem dX6_fire_35 : decode cX6_fire 35 = .ok (.iconst 1, 1) := by decide +kernel
theorem dX6_fire_36 : decode cX6_fire 36 = .ok (.iadd, 1) := by decide +kernel
theorem dX6_fire_37 : decode cX6_fire 37 = .ok (.putfield 90, 3) := by decide +kernel
theorem dX6_fire_40 : decode cX6_fire 40 = .ok (.return_, 1) := by decide +kernel
theorem dX6_fire_41 : decode cX6_fire 41 = .ok (.aload 4, 2) := by decide +kernel
theorem dX6_fire_43 : decode cX6_fire 43 = .ok (.iload_n 1, 1) := by decide +kernel
theorem dX6_fire_44 : decode cX6_fire 44 = .ok (.putfield 111, 3) := by decide +kernel
theorem dX6_fire_47 : decode cX6_fire 47 = .ok (.aload 4, 2) := by decide +kernel
theorem dX6_fire_49 : decode cX6_fire 49 = .ok (.iload_n 2, 1) := by decide +kernel
theorem dX6_fire_50 : decode cX6_fire 50 = .ok (.putfield 114, 3) := by decide +kernel
theorem dX6_fire_53 : decode cX6_fire 53 = .ok (.return_, 1) := by decide +kernel
theorem dX6_storedJobs_0 : decode cX6_storedJobs 0 = .ok (.iconst 0, 1) := by decide +kernel
theorem dX6_storedJobs_1 : decode cX6_storedJobs 1 = .ok (.istore_n 1, 1) := by decide +kernel
theorem dX6_storedJobs_2 : decode cX6_storedJobs 2 = .ok (.iconst 0, 1) := by decide +kernel
theorem dX6_storedJobs_3 : decode cX6_storedJobs 3 = .ok (.istore_n 2, 1) := by decide +kernel
theorem dX6_storedJobs_4 : decode cX6_storedJobs 4 = .ok (.iload_n 2, 1) := by decide +kernel
theorem dX6_storedJobs_5 : decode cX6_storedJobs 5 = .ok (.aload_n 0, 1) := by decide +kernel
theorem dX6_storedJobs_6 : decode cX6_storedJobs 6 = .ok (.getfield 46, 3) := by decide +kernel
theorem dX6_storedJobs_9 : decode cX6_storedJobs 9 = .ok (.if_icmp .ge 29, 3) := by decide +kernel
theorem dX6_storedJobs_12 : decode cX6_storedJobs 12 = .ok (.iload_n 1, 1) := by decide +kernel
theorem dX6_storedJobs_13 : decode cX6_storedJobs 13 = .ok (.aload_n 0, 1) := by decide +kernel
theorem dX6_storedJobs_14 : decode cX6_storedJobs 14 = .ok (.getfield 11, 3) := by decide +kernel
theorem dX6_storedJobs_17 : decode cX6_storedJobs 17 = .ok (.iload_n 2, 1) := by decide +kernel
theorem dX6_storedJobs_18 : decode cX6_storedJobs 18 = .ok (.aaload, 1) := by decide +kernel
theorem dX6_storedJobs_19 : decode cX6_storedJobs 19 = .ok (.getfield 117, 3) := by decide +kernel
theorem dX6_storedJobs_22 : decode cX6_storedJobs 22 = .ok (.ifCond .eq 7, 3) := by decide +kernel
theorem dX6_storedJobs_25 : decode cX6_storedJobs 25 = .ok (.iconst 1, 1) := by decide +kernel
theorem dX6_storedJobs_26 : decode cX6_storedJobs 26 = .ok (.goto 4, 3) := by decide +kernel
theorem dX6_storedJobs_29 : decode cX6_storedJobs 29 = .ok (.iconst 0, 1) := by decide +kernel
theorem dX6_storedJobs_30 : decode cX6_storedJobs 30 = .ok (.iadd, 1) := by decide +kernel
theorem dX6_storedJobs_31 : decode cX6_storedJobs 31 = .ok (.istore_n 1, 1) := by decide +kernel
theorem dX6_storedJobs_32 : decode cX6_storedJobs 32 = .ok (.iinc 2 1, 3) := by decide +kernel
theorem dX6_storedJobs_35 : decode cX6_storedJobs 35 = .ok (.goto (-31), 3) := by decide +kernel
theorem dX6_storedJobs_38 : decode cX6_storedJobs 38 = .ok (.iload_n 1, 1) := by decide +kernel
theorem dX6_storedJobs_39 : decode cX6_storedJobs 39 = .ok (.ireturn, 1) := by decide +kernel
theorem dX6_lockedJobs_0 : decode cX6_lockedJobs 0 = .ok (.iconst 0, 1) := by decide +kernel
theorem dX6_lockedJobs_1 : decode cX6_lockedJobs 1 = .ok (.istore_n 1, 1) := by decide +kernel
theorem dX6_lockedJobs_2 : decode cX6_lockedJobs 2 = .ok (.iconst 0, 1) := by decide +kernel
theorem dX6_lockedJobs_3 : decode cX6_lockedJobs 3 = .ok (.istore_n 2, 1) := by decide +kernel
theorem dX6_lockedJobs_4 : decode cX6_lockedJobs 4 = .ok (.iload_n 2, 1) := by decide +kernel
theorem dX6_lockedJobs_5 : decode cX6_lockedJobs 5 = .ok (.aload_n 0, 1) := by decide +kernel
theorem dX6_lockedJobs_6 : decode cX6_lockedJobs 6 = .ok (.getfield 46, 3) := by decide +kernel
theorem dX6_lockedJobs_9 : decode cX6_lockedJobs 9 = .ok (.if_icmp .ge 30, 3) := by decide +kernel
theorem dX6_lockedJobs_12 : decode cX6_lockedJobs 12 = .ok (.iload_n 1, 1) := by decide +kernel
theorem dX6_lockedJobs_13 : decode cX6_lockedJobs 13 = .ok (.aload_n 0, 1) := by decide +kernel
theorem dX6_lockedJobs_14 : decode cX6_lockedJobs 14 = .ok (.getfield 11, 3) := by decide +kernel
theorem dX6_lockedJobs_17 : decode cX6_lockedJobs 17 = .ok (.iload_n 2, 1) := by decide +kernel
theorem dX6_lockedJobs_18 : decode cX6_lockedJobs 18 = .ok (.aaload, 1) := by decide +kernel
theorem dX6_lockedJobs_19 : decode cX6_lockedJobs 19 = .ok (.getfield 121, 3) := by decide +kernel
theorem dX6_lockedJobs_22 : decode cX6_lockedJobs 22 = .ok (.iconst (-1), 1) := by decide +kernel
theorem dX6_lockedJobs_23 : decode cX6_lockedJobs 23 = .ok (.if_icmp .eq 7, 3) := by decide +kernel
theorem dX6_lockedJobs_26 : decode cX6_lockedJobs 26 = .ok (.iconst 1, 1) := by decide +kernel
theorem dX6_lockedJobs_27 : decode cX6_lockedJobs 27 = .ok (.goto 4, 3) := by decide +kernel
theorem dX6_lockedJobs_30 : decode cX6_lockedJobs 30 = .ok (.iconst 0, 1) := by decide +kernel
theorem dX6_lockedJobs_31 : decode cX6_lockedJobs 31 = .ok (.iadd, 1) := by decide +kernel
theorem dX6_lockedJobs_32 : decode cX6_lockedJobs 32 = .ok (.istore_n 1, 1) := by decide +kernel
theorem dX6_lockedJobs_33 : decode cX6_lockedJobs 33 = .ok (.iinc 2 1, 3) := by decide +kernel
theorem dX6_lockedJobs_36 : decode cX6_lockedJobs 36 = .ok (.goto (-32), 3) := by decide +kernel
theorem dX6_lockedJobs_39 : decode cX6_lockedJobs 39 = .ok (.iload_n 1, 1) := by decide +kernel
theorem dX6_lockedJobs_40 : decode cX6_lockedJobs 40 = .ok (.ireturn, 1) := by decide +kernel
theorem dX6_lockedBy_0 : decode cX6_lockedBy 0 = .ok (.iconst 0, 1) := by decide +kernel
theorem dX6_lockedBy_1 : decode cX6_lockedBy 1 = .ok (.istore_n 2, 1) := by decide +kernel
theorem dX6_lockedBy_2 : decode cX6_lockedBy 2 = .ok (.iconst 0, 1) := by decide +kernel
theorem dX6_lockedBy_3 : decode cX6_lockedBy 3 = .ok (.istore_n 3, 1) := by decide +kernel
theorem dX6_lockedBy_4 : decode cX6_lockedBy 4 = .ok (.iload_n 3, 1) := by decide +kernel
theorem dX6_lockedBy_5 : decode cX6_lockedBy 5 = .ok (.aload_n 0, 1) := by decide +kernel
theorem dX6_lockedBy_6 : decode cX6_lockedBy 6 = .ok (.getfield 46, 3) := by decide +kernel
theorem dX6_lockedBy_9 : decode cX6_lockedBy 9 = .ok (.if_icmp .ge 30, 3) := by decide +kernel
theorem dX6_lockedBy_12 : decode cX6_lockedBy 12 = .ok (.iload_n 2, 1) := by decide +kernel
theorem dX6_lockedBy_13 : decode cX6_lockedBy 13 = .ok (.aload_n 0, 1) := by decide +kernel
theorem dX6_lockedBy_14 : decode cX6_lockedBy 14 = .ok (.getfield 11, 3) := by decide +kernel
theorem dX6_lockedBy_17 : decode cX6_lockedBy 17 = .ok (.iload_n 3, 1) := by decide +kernel
theorem dX6_lockedBy_18 : decode cX6_lockedBy 18 = .ok (.aaload, 1) := by decide +kernel
theorem dX6_lockedBy_19 : decode cX6_lockedBy 19 = .ok (.iload_n 1, 1) := by decide +kernel
theorem dX6_lockedBy_20 : decode cX6_lockedBy 20 = .ok (.invokevirtual 147, 3) := by decide +kernel
theorem dX6_lockedBy_23 : decode cX6_lockedBy 23 = .ok (.ifCond .eq 7, 3) := by decide +kernel
theorem dX6_lockedBy_26 : decode cX6_lockedBy 26 = .ok (.iconst 1, 1) := by decide +kernel
theorem dX6_lockedBy_27 : decode cX6_lockedBy 27 = .ok (.goto 4, 3) := by decide +kernel
theorem dX6_lockedBy_30 : decode cX6_lockedBy 30 = .ok (.iconst 0, 1) := by decide +kernel
theorem dX6_lockedBy_31 : decode cX6_lockedBy 31 = .ok (.iadd, 1) := by decide +kernel
theorem dX6_lockedBy_32 : decode cX6_lockedBy 32 = .ok (.istore_n 2, 1) := by decide +kernel
theorem dX6_lockedBy_33 : decode cX6_lockedBy 33 = .ok (.iinc 3 1, 3) := by decide +kernel
theorem dX6_lockedBy_36 : decode cX6_lockedBy 36 = .ok (.goto (-32), 3) := by decide +kernel
theorem dX6_lockedBy_39 : decode cX6_lockedBy 39 = .ok (.iload_n 2, 1) := by decide +kernel
theorem dX6_lockedBy_40 : decode cX6_lockedBy 40 = .ok (.ireturn, 1) := by decide +kernel
theorem dX6_openTransactions_0 : decode cX6_openTransactions 0 = .ok (.iconst 0, 1) := by decide +kernel
theorem dX6_openTransactions_1 : decode cX6_openTransactions 1 = .ok (.istore_n 1, 1) := by decide +kernel
theorem dX6_openTransactions_2 : decode cX6_openTransactions 2 = .ok (.iconst 0, 1) := by decide +kernel
theorem dX6_openTransactions_3 : decode cX6_openTransactions 3 = .ok (.istore_n 2, 1) := by decide +kernel
theorem dX6_openTransactions_4 : decode cX6_openTransactions 4 = .ok (.iload_n 2, 1) := by decide +kernel
theorem dX6_openTransactions_5 : decode cX6_openTransactions 5 = .ok (.aload_n 0, 1) := by decide +kernel
theorem dX6_openTransactions_6 : decode cX6_openTransactions 6 = .ok (.getfield 54, 3) := by decide +kernel
theorem dX6_openTransactions_9 : decode cX6_openTransactions 9 = .ok (.if_icmp .ge 29, 3) := by decide +kernel
theorem dX6_openTransactions_12 : decode cX6_openTransactions 12 = .ok (.iload_n 1, 1) := by decide +kernel
theorem dX6_openTransactions_13 : decode cX6_openTransactions 13 = .ok (.aload_n 0, 1) := by decide +kernel
theorem dX6_openTransactions_14 : decode cX6_openTransactions 14 = .ok (.getfield 19, 3) := by decide +kernel
theorem dX6_openTransactions_17 : decode cX6_openTransactions 17 = .ok (.iload_n 2, 1) := by decide +kernel
theorem dX6_openTransactions_18 : decode cX6_openTransactions 18 = .ok (.aaload, 1) := by decide +kernel
theorem dX6_openTransactions_19 : decode cX6_openTransactions 19 = .ok (.getfield 175, 3) := by decide +kernel
theorem dX6_openTransactions_22 : decode cX6_openTransactions 22 = .ok (.ifCond .eq 7, 3) := by decide +kernel
theorem dX6_openTransactions_25 : decode cX6_openTransactions 25 = .ok (.iconst 1, 1) := by decide +kernel
theorem dX6_openTransactions_26 : decode cX6_openTransactions 26 = .ok (.goto 4, 3) := by decide +kernel
theorem dX6_openTransactions_29 : decode cX6_openTransactions 29 = .ok (.iconst 0, 1) := by decide +kernel
theorem dX6_openTransactions_30 : decode cX6_openTransactions 30 = .ok (.iadd, 1) := by decide +kernel
theorem dX6_openTransactions_31 : decode cX6_openTransactions 31 = .ok (.istore_n 1, 1) := by decide +kernel
theorem dX6_openTransactions_32 : decode cX6_openTransactions 32 = .ok (.iinc 2 1, 3) := by decide +kernel
theorem dX6_openTransactions_35 : decode cX6_openTransactions 35 = .ok (.goto (-31), 3) := by decide +kernel
theorem dX6_openTransactions_38 : decode cX6_openTransactions 38 = .ok (.iload_n 1, 1) := by decide +kernel
theorem dX6_openTransactions_39 : decode cX6_openTransactions 39 = .ok (.ireturn, 1) := by decide +kernel
theorem dX6_holds_0 : decode cX6_holds 0 = .ok (.iconst 0, 1) := by decide +kernel
theorem dX6_holds_1 : decode cX6_holds 1 = .ok (.istore_n 3, 1) := by decide +kernel
theorem dX6_holds_2 : decode cX6_holds 2 = .ok (.iconst 0, 1) := by decide +kernel
theorem dX6_holds_3 : decode cX6_holds 3 = .ok (.istore 4, 2) := by decide +kernel
theorem dX6_holds_5 : decode cX6_holds 5 = .ok (.iload 4, 2) := by decide +kernel
theorem dX6_holds_7 : decode cX6_holds 7 = .ok (.aload_n 0, 1) := by decide +kernel
theorem dX6_holds_8 : decode cX6_holds 8 = .ok (.getfield 46, 3) := by decide +kernel
theorem dX6_holds_11 : decode cX6_holds 11 = .ok (.if_icmp .ge 45, 3) := by decide +kernel
theorem dX6_holds_14 : decode cX6_holds 14 = .ok (.aload_n 0, 1) := by decide +kernel
theorem dX6_holds_15 : decode cX6_holds 15 = .ok (.getfield 11, 3) := by decide +kernel
theorem dX6_holds_18 : decode cX6_holds 18 = .ok (.iload 4, 2) := by decide +kernel
theorem dX6_holds_20 : decode cX6_holds 20 = .ok (.aaload, 1) := by decide +kernel
theorem dX6_holds_21 : decode cX6_holds 21 = .ok (.astore 5, 2) := by decide +kernel
theorem dX6_holds_23 : decode cX6_holds 23 = .ok (.aload 5, 2) := by decide +kernel
theorem dX6_holds_25 : decode cX6_holds 25 = .ok (.iload_n 1, 1) := by decide +kernel
theorem dX6_holds_26 : decode cX6_holds 26 = .ok (.invokevirtual 137, 3) := by decide +kernel
theorem dX6_holds_29 : decode cX6_holds 29 = .ok (.ifCond .eq 21, 3) := by decide +kernel
theorem dX6_holds_32 : decode cX6_holds 32 = .ok (.aload_n 0, 1) := by decide +kernel
theorem dX6_holds_33 : decode cX6_holds 33 = .ok (.aload 5, 2) := by decide +kernel
theorem dX6_holds_35 : decode cX6_holds 35 = .ok (.iload_n 1, 1) := by decide +kernel
theorem dX6_holds_36 : decode cX6_holds 36 = .ok (.invokevirtual 206, 3) := by decide +kernel
theorem dX6_holds_39 : decode cX6_holds 39 = .ok (.iload_n 1, 1) := by decide +kernel
theorem dX6_holds_40 : decode cX6_holds 40 = .ok (.iload_n 2, 1) := by decide +kernel
theorem dX6_holds_41 : decode cX6_holds 41 = .ok (.invokevirtual 245, 3) := by decide +kernel
theorem dX6_holds_44 : decode cX6_holds 44 = .ok (.ifCond .eq 6, 3) := by decide +kernel
theorem dX6_holds_47 : decode cX6_holds 47 = .ok (.iinc 3 1, 3) := by decide +kernel
theorem dX6_holds_50 : decode cX6_holds 50 = .ok (.iinc 4 1, 3) := by decide +kernel
theorem dX6_holds_53 : decode cX6_holds 53 = .ok (.goto (-48), 3) := by decide +kernel
theorem dX6_holds_56 : decode cX6_holds 56 = .ok (.iload_n 3, 1) := by decide +kernel
theorem dX6_holds_57 : decode cX6_holds 57 = .ok (.ireturn, 1) := by decide +kernel
theorem dX6_isHold_0 : decode cX6_isHold 0 = .ok (.aload_n 1, 1) := by decide +kernel
theorem dX6_isHold_1 : decode cX6_isHold 1 = .ok (.getfield 141, 3) := by decide +kernel
theorem dX6_isHold_4 : decode cX6_isHold 4 = .ok (.iconst 1, 1) := by decide +kernel
theorem dX6_isHold_5 : decode cX6_isHold 5 = .ok (.if_icmp .ne 11, 3) := by decide +kernel
theorem dX6_isHold_8 : decode cX6_isHold 8 = .ok (.aload_n 1, 1) := by decide +kernel
theorem dX6_isHold_9 : decode cX6_isHold 9 = .ok (.getfield 249, 3) := by decide +kernel
theorem dX6_isHold_12 : decode cX6_isHold 12 = .ok (.iload_n 2, 1) := by decide +kernel
theorem dX6_isHold_13 : decode cX6_isHold 13 = .ok (.if_icmp .eq 5, 3) := by decide +kernel
theorem dX6_isHold_16 : decode cX6_isHold 16 = .ok (.iconst 0, 1) := by decide +kernel
theorem dX6_isHold_17 : decode cX6_isHold 17 = .ok (.ireturn, 1) := by decide +kernel
theorem dX6_isHold_18 : decode cX6_isHold 18 = .ok (.aload_n 1, 1) := by decide +kernel
theorem dX6_isHold_19 : decode cX6_isHold 19 = .ok (.getfield 221, 3) := by decide +kernel
theorem dX6_isHold_22 : decode cX6_isHold 22 = .ok (.aload_n 0, 1) := by decide +kernel
theorem dX6_isHold_23 : decode cX6_isHold 23 = .ok (.getfield 78, 3) := by decide +kernel
theorem dX6_isHold_26 : decode cX6_isHold 26 = .ok (.if_icmp .ge 7, 3) := by decide +kernel
theorem dX6_isHold_29 : decode cX6_isHold 29 = .ok (.iconst 1, 1) := by decide +kernel
theorem dX6_isHold_30 : decode cX6_isHold 30 = .ok (.goto 4, 3) := by decide +kernel
theorem dX6_isHold_33 : decode cX6_isHold 33 = .ok (.iconst 0, 1) := by decide +kernel
theorem dX6_isHold_34 : decode cX6_isHold 34 = .ok (.istore 4, 2) := by decide +kernel
theorem dX6_isHold_36 : decode cX6_isHold 36 = .ok (.aload_n 1, 1) := by decide +kernel
theorem dX6_isHold_37 : decode cX6_isHold 37 = .ok (.getfield 221, 3) := by decide +kernel
theorem dX6_isHold_40 : decode cX6_isHold 40 = .ok (.aload_n 0, 1) := by decide +kernel
theorem dX6_isHold_41 : decode cX6_isHold 41 = .ok (.getfield 78, 3) := by decide +kernel
theorem dX6_isHold_44 : decode cX6_isHold 44 = .ok (.aload_n 0, 1) := by decide +kernel
theorem dX6_isHold_45 : decode cX6_isHold 45 = .ok (.getfield 19, 3) := by decide +kernel
theorem dX6_isHold_48 : decode cX6_isHold 48 = .ok (.iload_n 2, 1) := by decide +kernel
theorem dX6_isHold_49 : decode cX6_isHold 49 = .ok (.aaload, 1) := by decide +kernel
theorem dX6_isHold_50 : decode cX6_isHold 50 = .ok (.getfield 252, 3) := by decide +kernel
theorem dX6_isHold_53 : decode cX6_isHold 53 = .ok (.iadd, 1) := by decide +kernel
theorem dX6_isHold_54 : decode cX6_isHold 54 = .ok (.if_icmp .ge 7, 3) := by decide +kernel
theorem dX6_isHold_57 : decode cX6_isHold 57 = .ok (.iconst 1, 1) := by decide +kernel
theorem dX6_isHold_58 : decode cX6_isHold 58 = .ok (.goto 4, 3) := by decide +kernel
theorem dX6_isHold_61 : decode cX6_isHold 61 = .ok (.iconst 0, 1) := by decide +kernel
theorem dX6_isHold_62 : decode cX6_isHold 62 = .ok (.istore 5, 2) := by decide +kernel
theorem dX6_isHold_64 : decode cX6_isHold 64 = .ok (.iload_n 3, 1) := by decide +kernel
theorem dX6_isHold_65 : decode cX6_isHold 65 = .ok (.tableswitch 46 1 3 #[27, 30, 33], 27) := by decide +kernel
theorem dX6_isHold_92 : decode cX6_isHold 92 = .ok (.iload 4, 2) := by decide +kernel
theorem dX6_isHold_94 : decode cX6_isHold 94 = .ok (.ireturn, 1) := by decide +kernel
theorem dX6_isHold_95 : decode cX6_isHold 95 = .ok (.iload 5, 2) := by decide +kernel
theorem dX6_isHold_97 : decode cX6_isHold 97 = .ok (.ireturn, 1) := by decide +kernel
theorem dX6_isHold_98 : decode cX6_isHold 98 = .ok (.iload 4, 2) := by decide +kernel
theorem dX6_isHold_100 : decode cX6_isHold 100 = .ok (.iload 5, 2) := by decide +kernel
theorem dX6_isHold_102 : decode cX6_isHold 102 = .ok (.if_icmp .eq 7, 3) := by decide +kernel
theorem dX6_isHold_105 : decode cX6_isHold 105 = .ok (.iconst 1, 1) := by decide +kernel
theorem dX6_isHold_106 : decode cX6_isHold 106 = .ok (.goto 4, 3) := by decide +kernel
theorem dX6_isHold_109 : decode cX6_isHold 109 = .ok (.iconst 0, 1) := by decide +kernel
theorem dX6_isHold_110 : decode cX6_isHold 110 = .ok (.ireturn, 1) := by decide +kernel
theorem dX6_isHold_111 : decode cX6_isHold 111 = .ok (.iconst 1, 1) := by decide +kernel
theorem dX6_isHold_112 : decode cX6_isHold 112 = .ok (.ireturn, 1) := by decide +kernel
theorem dX6_overtakenPairs_0 : decode cX6_overtakenPairs 0 = .ok (.iconst 0, 1) := by decide +kernel
theorem dX6_overtakenPairs_1 : decode cX6_overtakenPairs 1 = .ok (.istore_n 2, 1) := by decide +kernel
theorem dX6_overtakenPairs_2 : decode cX6_overtakenPairs 2 = .ok (.iconst 1, 1) := by decide +kernel
theorem dX6_overtakenPairs_3 : decode cX6_overtakenPairs 3 = .ok (.istore_n 3, 1) := by decide +kernel
theorem dX6_overtakenPairs_4 : decode cX6_overtakenPairs 4 = .ok (.iload_n 3, 1) := by decide +kernel
theorem dX6_overtakenPairs_5 : decode cX6_overtakenPairs 5 = .ok (.aload_n 0, 1) := by decide +kernel
theorem dX6_overtakenPairs_6 : decode cX6_overtakenPairs 6 = .ok (.getfield 46, 3) := by decide +kernel
theorem dX6_overtakenPairs_9 : decode cX6_overtakenPairs 9 = .ok (.if_icmp .ge 73, 3) := by decide +kernel
theorem dX6_overtakenPairs_12 : decode cX6_overtakenPairs 12 = .ok (.iconst 0, 1) := by decide +kernel
theorem dX6_overtakenPairs_13 : decode cX6_overtakenPairs 13 = .ok (.istore 4, 2) := by decide +kernel
theorem dX6_overtakenPairs_15 : decode cX6_overtakenPairs 15 = .ok (.iload 4, 2) := by decide +kernel
theorem dX6_overtakenPairs_17 : decode cX6_overtakenPairs 17 = .ok (.iload_n 3, 1) := by decide +kernel
theorem dX6_overtakenPairs_18 : decode cX6_overtakenPairs 18 = .ok (.if_icmp .ge 58, 3) := by decide +kernel
theorem dX6_overtakenPairs_21 : decode cX6_overtakenPairs 21 = .ok (.aload_n 0, 1) := by decide +kernel
theorem dX6_overtakenPairs_22 : decode cX6_overtakenPairs 22 = .ok (.iload_n 3, 1) := by decide +kernel
theorem dX6_overtakenPairs_23 : decode cX6_overtakenPairs 23 = .ok (.iload_n 1, 1) := by decide +kernel
theorem dX6_overtakenPairs_24 : decode cX6_overtakenPairs 24 = .ok (.invokevirtual 255, 3) := by decide +kernel
theorem dX6_overtakenPairs_27 : decode cX6_overtakenPairs 27 = .ok (.ifCond .eq 17, 3) := by decide +kernel
theorem dX6_overtakenPairs_30 : decode cX6_overtakenPairs 30 = .ok (.aload_n 0, 1) := by decide +kernel
theorem dX6_overtakenPairs_31 : decode cX6_overtakenPairs 31 = .ok (.iload 4, 2) := by decide +kernel
theorem dX6_overtakenPairs_33 : decode cX6_overtakenPairs 33 = .ok (.iload_n 1, 1) := by decide +kernel
theorem dX6_overtakenPairs_34 : decode cX6_overtakenPairs 34 = .ok (.invokevirtual 255, 3) := by decide +kernel
theorem dX6_overtakenPairs_37 : decode cX6_overtakenPairs 37 = .ok (.ifCond .eq 7, 3) := by decide +kernel
theorem dX6_overtakenPairs_40 : decode cX6_overtakenPairs 40 = .ok (.iconst 1, 1) := by decide +kernel
theorem dX6_overtakenPairs_41 : decode cX6_overtakenPairs 41 = .ok (.goto 4, 3) := by decide +kernel
theorem dX6_overtakenPairs_44 : decode cX6_overtakenPairs 44 = .ok (.iconst 0, 1) := by decide +kernel
theorem dX6_overtakenPairs_45 : decode cX6_overtakenPairs 45 = .ok (.istore 5, 2) := by decide +kernel
theorem dX6_overtakenPairs_47 : decode cX6_overtakenPairs 47 = .ok (.iload_n 2, 1) := by decide +kernel
theorem dX6_overtakenPairs_48 : decode cX6_overtakenPairs 48 = .ok (.iload 5, 2) := by decide +kernel
theorem dX6_overtakenPairs_50 : decode cX6_overtakenPairs 50 = .ok (.ifCond .eq 17, 3) := by decide +kernel
theorem dX6_overtakenPairs_53 : decode cX6_overtakenPairs 53 = .ok (.aload_n 0, 1) := by decide +kernel
theorem dX6_overtakenPairs_54 : decode cX6_overtakenPairs 54 = .ok (.iload 4, 2) := by decide +kernel
theorem dX6_overtakenPairs_56 : decode cX6_overtakenPairs 56 = .ok (.iload_n 3, 1) := by decide +kernel
theorem dX6_overtakenPairs_57 : decode cX6_overtakenPairs 57 = .ok (.invokevirtual 259, 3) := by decide +kernel
theorem dX6_overtakenPairs_60 : decode cX6_overtakenPairs 60 = .ok (.ifCond .eq 7, 3) := by decide +kernel
theorem dX6_overtakenPairs_63 : decode cX6_overtakenPairs 63 = .ok (.iconst 1, 1) := by decide +kernel
theorem dX6_overtakenPairs_64 : decode cX6_overtakenPairs 64 = .ok (.goto 4, 3) := by decide +kernel
theorem dX6_overtakenPairs_67 : decode cX6_overtakenPairs 67 = .ok (.iconst 0, 1) := by decide +kernel
theorem dX6_overtakenPairs_68 : decode cX6_overtakenPairs 68 = .ok (.iadd, 1) := by decide +kernel
theorem dX6_overtakenPairs_69 : decode cX6_overtakenPairs 69 = .ok (.istore_n 2, 1) := by decide +kernel
theorem dX6_overtakenPairs_70 : decode cX6_overtakenPairs 70 = .ok (.iinc 4 1, 3) := by decide +kernel
theorem dX6_overtakenPairs_73 : decode cX6_overtakenPairs 73 = .ok (.goto (-58), 3) := by decide +kernel
theorem dX6_overtakenPairs_76 : decode cX6_overtakenPairs 76 = .ok (.iinc 3 1, 3) := by decide +kernel
theorem dX6_overtakenPairs_79 : decode cX6_overtakenPairs 79 = .ok (.goto (-75), 3) := by decide +kernel
theorem dX6_overtakenPairs_82 : decode cX6_overtakenPairs 82 = .ok (.iload_n 2, 1) := by decide +kernel
theorem dX6_overtakenPairs_83 : decode cX6_overtakenPairs 83 = .ok (.ireturn, 1) := by decide +kernel
theorem dX6_isStoredIn_0 : decode cX6_isStoredIn 0 = .ok (.aload_n 0, 1) := by decide +kernel
theorem dX6_isStoredIn_1 : decode cX6_isStoredIn 1 = .ok (.getfield 11, 3) := by decide +kernel
theorem dX6_isStoredIn_4 : decode cX6_isStoredIn 4 = .ok (.iload_n 1, 1) := by decide +kernel
theorem dX6_isStoredIn_5 : decode cX6_isStoredIn 5 = .ok (.aaload, 1) := by decide +kernel
theorem dX6_isStoredIn_6 : decode cX6_isStoredIn 6 = .ok (.getfield 117, 3) := by decide +kernel
theorem dX6_isStoredIn_9 : decode cX6_isStoredIn 9 = .ok (.ifCond .eq 20, 3) := by decide +kernel
theorem dX6_isStoredIn_12 : decode cX6_isStoredIn 12 = .ok (.aload_n 0, 1) := by decide +kernel
theorem dX6_isStoredIn_13 : decode cX6_isStoredIn 13 = .ok (.getfield 11, 3) := by decide +kernel
theorem dX6_isStoredIn_16 : decode cX6_isStoredIn 16 = .ok (.iload_n 1, 1) := by decide +kernel
theorem dX6_isStoredIn_17 : decode cX6_isStoredIn 17 = .ok (.aaload, 1) := by decide +kernel
theorem dX6_isStoredIn_18 : decode cX6_isStoredIn 18 = .ok (.getfield 99, 3) := by decide +kernel
theorem dX6_isStoredIn_21 : decode cX6_isStoredIn 21 = .ok (.iload_n 2, 1) := by decide +kernel
theorem dX6_isStoredIn_22 : decode cX6_isStoredIn 22 = .ok (.if_icmp .ne 7, 3) := by decide +kernel
theorem dX6_isStoredIn_25 : decode cX6_isStoredIn 25 = .ok (.iconst 1, 1) := by decide +kernel
theorem dX6_isStoredIn_26 : decode cX6_isStoredIn 26 = .ok (.goto 4, 3) := by decide +kernel
theorem dX6_isStoredIn_29 : decode cX6_isStoredIn 29 = .ok (.iconst 0, 1) := by decide +kernel
theorem dX6_isStoredIn_30 : decode cX6_isStoredIn 30 = .ok (.ireturn, 1) := by decide +kernel
theorem dX6_isOvertaken_0 : decode cX6_isOvertaken 0 = .ok (.aload_n 0, 1) := by decide +kernel
theorem dX6_isOvertaken_1 : decode cX6_isOvertaken 1 = .ok (.getfield 39, 3) := by decide +kernel
theorem dX6_isOvertaken_4 : decode cX6_isOvertaken 4 = .ok (.aload_n 0, 1) := by decide +kernel
theorem dX6_isOvertaken_5 : decode cX6_isOvertaken 5 = .ok (.getfield 11, 3) := by decide +kernel
theorem dX6_isOvertaken_8 : decode cX6_isOvertaken 8 = .ok (.iload_n 2, 1) := by decide +kernel
theorem dX6_isOvertaken_9 : decode cX6_isOvertaken 9 = .ok (.aaload, 1) := by decide +kernel
theorem dX6_isOvertaken_10 : decode cX6_isOvertaken 10 = .ok (.getfield 96, 3) := by decide +kernel
theorem dX6_isOvertaken_13 : decode cX6_isOvertaken 13 = .ok (.invokevirtual 262, 3) := by decide +kernel
theorem dX6_isOvertaken_16 : decode cX6_isOvertaken 16 = .ok (.istore_n 3, 1) := by decide +kernel
theorem dX6_isOvertaken_17 : decode cX6_isOvertaken 17 = .ok (.aload_n 0, 1) := by decide +kernel
theorem dX6_isOvertaken_18 : decode cX6_isOvertaken 18 = .ok (.getfield 39, 3) := by decide +kernel
theorem dX6_isOvertaken_21 : decode cX6_isOvertaken 21 = .ok (.aload_n 0, 1) := by decide +kernel
theorem dX6_isOvertaken_22 : decode cX6_isOvertaken 22 = .ok (.getfield 11, 3) := by decide +kernel
theorem dX6_isOvertaken_25 : decode cX6_isOvertaken 25 = .ok (.iload_n 1, 1) := by decide +kernel
theorem dX6_isOvertaken_26 : decode cX6_isOvertaken 26 = .ok (.aaload, 1) := by decide +kernel
theorem dX6_isOvertaken_27 : decode cX6_isOvertaken 27 = .ok (.getfield 96, 3) := by decide +kernel
theorem dX6_isOvertaken_30 : decode cX6_isOvertaken 30 = .ok (.invokevirtual 262, 3) := by decide +kernel
theorem dX6_isOvertaken_33 : decode cX6_isOvertaken 33 = .ok (.istore 4, 2) := by decide +kernel
theorem dX6_isOvertaken_35 : decode cX6_isOvertaken 35 = .ok (.iload_n 3, 1) := by decide +kernel
theorem dX6_isOvertaken_36 : decode cX6_isOvertaken 36 = .ok (.iconst (-1), 1) := by decide +kernel
theorem dX6_isOvertaken_37 : decode cX6_isOvertaken 37 = .ok (.if_icmp .eq 19, 3) := by decide +kernel
theorem dX6_isOvertaken_40 : decode cX6_isOvertaken 40 = .ok (.iload 4, 2) := by decide +kernel
theorem dX6_isOvertaken_42 : decode cX6_isOvertaken 42 = .ok (.iconst (-1), 1) := by decide +kernel
theorem dX6_isOvertaken_43 : decode cX6_isOvertaken 43 = .ok (.if_icmp .eq 9, 3) := by decide +kernel
theorem dX6_isOvertaken_46 : decode cX6_isOvertaken 46 = .ok (.iload_n 3, 1) := by decide +kernel
theorem dX6_isOvertaken_47 : decode cX6_isOvertaken 47 = .ok (.iload 4, 2) := by decide +kernel
theorem dX6_isOvertaken_49 : decode cX6_isOvertaken 49 = .ok (.if_icmp .ge 7, 3) := by decide +kernel
theorem dX6_isOvertaken_52 : decode cX6_isOvertaken 52 = .ok (.iconst 1, 1) := by decide +kernel
theorem dX6_isOvertaken_53 : decode cX6_isOvertaken 53 = .ok (.goto 4, 3) := by decide +kernel
theorem dX6_isOvertaken_56 : decode cX6_isOvertaken 56 = .ok (.iconst 0, 1) := by decide +kernel
theorem dX6_isOvertaken_57 : decode cX6_isOvertaken 57 = .ok (.ireturn, 1) := by decide +kernel
theorem dX6_setAsideFrom_0 : decode cX6_setAsideFrom 0 = .ok (.iconst 0, 1) := by decide +kernel
theorem dX6_setAsideFrom_1 : decode cX6_setAsideFrom 1 = .ok (.istore_n 2, 1) := by decide +kernel
theorem dX6_setAsideFrom_2 : decode cX6_setAsideFrom 2 = .ok (.iconst 0, 1) := by decide +kernel
theorem dX6_setAsideFrom_3 : decode cX6_setAsideFrom 3 = .ok (.istore_n 3, 1) := by decide +kernel
theorem dX6_setAsideFrom_4 : decode cX6_setAsideFrom 4 = .ok (.iload_n 3, 1) := by decide +kernel
theorem dX6_setAsideFrom_5 : decode cX6_setAsideFrom 5 = .ok (.aload_n 0, 1) := by decide +kernel
theorem dX6_setAsideFrom_6 : decode cX6_setAsideFrom 6 = .ok (.getfield 46, 3) := by decide +kernel
theorem dX6_setAsideFrom_9 : decode cX6_setAsideFrom 9 = .ok (.if_icmp .ge 72, 3) := by decide +kernel
theorem dX6_setAsideFrom_12 : decode cX6_setAsideFrom 12 = .ok (.aload_n 0, 1) := by decide +kernel
theorem dX6_setAsideFrom_13 : decode cX6_setAsideFrom 13 = .ok (.getfield 11, 3) := by decide +kernel
theorem dX6_setAsideFrom_16 : decode cX6_setAsideFrom 16 = .ok (.iload_n 3, 1) := by decide +kernel
theorem dX6_setAsideFrom_17 : decode cX6_setAsideFrom 17 = .ok (.aaload, 1) := by decide +kernel
theorem dX6_setAsideFrom_18 : decode cX6_setAsideFrom 18 = .ok (.getfield 124, 3) := by decide +kernel
theorem dX6_setAsideFrom_21 : decode cX6_setAsideFrom 21 = .ok (.astore 4, 2) := by decide +kernel
theorem dX6_setAsideFrom_23 : decode cX6_setAsideFrom 23 = .ok (.aload_n 0, 1) := by decide +kernel
theorem dX6_setAsideFrom_24 : decode cX6_setAsideFrom 24 = .ok (.getfield 11, 3) := by decide +kernel
theorem dX6_setAsideFrom_27 : decode cX6_setAsideFrom 27 = .ok (.iload_n 3, 1) := by decide +kernel
theorem dX6_setAsideFrom_28 : decode cX6_setAsideFrom 28 = .ok (.aaload, 1) := by decide +kernel
theorem dX6_setAsideFrom_29 : decode cX6_setAsideFrom 29 = .ok (.getfield 117, 3) := by decide +kernel
theorem dX6_setAsideFrom_32 : decode cX6_setAsideFrom 32 = .ok (.ifCond .eq 16, 3) := by decide +kernel
theorem dX6_setAsideFrom_35 : decode cX6_setAsideFrom 35 = .ok (.aload 4, 2) := by decide +kernel
theorem dX6_setAsideFrom_37 : decode cX6_setAsideFrom 37 = .ok (.getfield 141, 3) := by decide +kernel
theorem dX6_setAsideFrom_40 : decode cX6_setAsideFrom 40 = .ok (.iconst 3, 1) := by decide +kernel
theorem dX6_setAsideFrom_41 : decode cX6_setAsideFrom 41 = .ok (.if_icmp .ne 7, 3) := by decide +kernel
theorem dX6_setAsideFrom_44 : decode cX6_setAsideFrom 44 = .ok (.iconst 1, 1) := by decide +kernel
theorem dX6_setAsideFrom_45 : decode cX6_setAsideFrom 45 = .ok (.goto 4, 3) := by decide +kernel
theorem dX6_setAsideFrom_48 : decode cX6_setAsideFrom 48 = .ok (.iconst 0, 1) := by decide +kernel
theorem dX6_setAsideFrom_49 : decode cX6_setAsideFrom 49 = .ok (.istore 5, 2) := by decide +kernel
theorem dX6_setAsideFrom_51 : decode cX6_setAsideFrom 51 = .ok (.iload 5, 2) := by decide +kernel
theorem dX6_setAsideFrom_53 : decode cX6_setAsideFrom 53 = .ok (.ifCond .eq 22, 3) := by decide +kernel
theorem dX6_setAsideFrom_56 : decode cX6_setAsideFrom 56 = .ok (.aload 4, 2) := by decide +kernel
theorem dX6_setAsideFrom_58 : decode cX6_setAsideFrom 58 = .ok (.aload 4, 2) := by decide +kernel
theorem dX6_setAsideFrom_60 : decode cX6_setAsideFrom 60 = .ok (.getfield 265, 3) := by decide +kernel
theorem dX6_setAsideFrom_63 : decode cX6_setAsideFrom 63 = .ok (.iconst 1, 1) := by decide +kernel
theorem dX6_setAsideFrom_64 : decode cX6_setAsideFrom 64 = .ok (.isub, 1) := by decide +kernel
theorem dX6_setAsideFrom_65 : decode cX6_setAsideFrom 65 = .ok (.invokevirtual 268, 3) := by decide +kernel
theorem dX6_setAsideFrom_68 : decode cX6_setAsideFrom 68 = .ok (.iload_n 1, 1) := by decide +kernel
theorem dX6_setAsideFrom_69 : decode cX6_setAsideFrom 69 = .ok (.if_icmp .ne 6, 3) := by decide +kernel
theorem dX6_setAsideFrom_72 : decode cX6_setAsideFrom 72 = .ok (.iinc 2 1, 3) := by decide +kernel
theorem dX6_setAsideFrom_75 : decode cX6_setAsideFrom 75 = .ok (.iinc 3 1, 3) := by decide +kernel
theorem dX6_setAsideFrom_78 : decode cX6_setAsideFrom 78 = .ok (.goto (-74), 3) := by decide +kernel
theorem dX6_setAsideFrom_81 : decode cX6_setAsideFrom 81 = .ok (.iload_n 2, 1) := by decide +kernel
theorem dX6_setAsideFrom_82 : decode cX6_setAsideFrom 82 = .ok (.ireturn, 1) := by decide +kernel
theorem dX6_numberFound_0 : decode cX6_numberFound 0 = .ok (.iconst 0, 1) := by decide +kernel
theorem dX6_numberFound_1 : decode cX6_numberFound 1 = .ok (.istore_n 3, 1) := by decide +kernel
theorem dX6_numberFound_2 : decode cX6_numberFound 2 = .ok (.iconst 0, 1) := by decide +kernel
theorem dX6_numberFound_3 : decode cX6_numberFound 3 = .ok (.istore 4, 2) := by decide +kernel
theorem dX6_numberFound_5 : decode cX6_numberFound 5 = .ok (.iload 4, 2) := by decide +kernel
theorem dX6_numberFound_7 : decode cX6_numberFound 7 = .ok (.aload_n 0, 1) := by decide +kernel
theorem dX6_numberFound_8 : decode cX6_numberFound 8 = .ok (.getfield 46, 3) := by decide +kernel
theorem dX6_numberFound_11 : decode cX6_numberFound 11 = .ok (.if_icmp .ge 43, 3) := by decide +kernel
theorem dX6_numberFound_14 : decode cX6_numberFound 14 = .ok (.aload_n 0, 1) := by decide +kernel
theorem dX6_numberFound_15 : decode cX6_numberFound 15 = .ok (.aload_n 0, 1) := by decide +kernel
theorem dX6_numberFound_16 : decode cX6_numberFound 16 = .ok (.getfield 11, 3) := by decide +kernel
theorem dX6_numberFound_19 : decode cX6_numberFound 19 = .ok (.iload 4, 2) := by decide +kernel
theorem dX6_numberFound_21 : decode cX6_numberFound 21 = .ok (.aaload, 1) := by decide +kernel
theorem dX6_numberFound_22 : decode cX6_numberFound 22 = .ok (.iload_n 1, 1) := by decide +kernel
theorem dX6_numberFound_23 : decode cX6_numberFound 23 = .ok (.invokevirtual 271, 3) := by decide +kernel
theorem dX6_numberFound_26 : decode cX6_numberFound 26 = .ok (.ifCond .eq 22, 3) := by decide +kernel
theorem dX6_numberFound_29 : decode cX6_numberFound 29 = .ok (.iload_n 3, 1) := by decide +kernel
theorem dX6_numberFound_30 : decode cX6_numberFound 30 = .ok (.iload_n 2, 1) := by decide +kernel
theorem dX6_numberFound_31 : decode cX6_numberFound 31 = .ok (.if_icmp .ne 14, 3) := by decide +kernel
theorem dX6_numberFound_34 : decode cX6_numberFound 34 = .ok (.aload_n 0, 1) := by decide +kernel
theorem dX6_numberFound_35 : decode cX6_numberFound 35 = .ok (.getfield 11, 3) := by decide +kernel
theorem dX6_numberFound_38 : decode cX6_numberFound 38 = .ok (.iload 4, 2) := by decide +kernel
theorem dX6_numberFound_40 : decode cX6_numberFound 40 = .ok (.aaload, 1) := by decide +kernel
theorem dX6_numberFound_41 : decode cX6_numberFound 41 = .ok (.getfield 96, 3) := by decide +kernel
theorem dX6_numberFound_44 : decode cX6_numberFound 44 = .ok (.ireturn, 1) := by decide +kernel
theorem dX6_numberFound_45 : decode cX6_numberFound 45 = .ok (.iinc 3 1, 3) := by decide +kernel
theorem dX6_numberFound_48 : decode cX6_numberFound 48 = .ok (.iinc 4 1, 3) := by decide +kernel
theorem dX6_numberFound_51 : decode cX6_numberFound 51 = .ok (.goto (-46), 3) := by decide +kernel
theorem dX6_numberFound_54 : decode cX6_numberFound 54 = .ok (.iconst (-1), 1) := by decide +kernel
theorem dX6_numberFound_55 : decode cX6_numberFound 55 = .ok (.ireturn, 1) := by decide +kernel
theorem dX6_isOfKind_0 : decode cX6_isOfKind 0 = .ok (.iload_n 2, 1) := by decide +kernel
theorem dX6_isOfKind_1 : decode cX6_isOfKind 1 = .ok (.iconst 4, 1) := by decide +kernel
theorem dX6_isOfKind_2 : decode cX6_isOfKind 2 = .ok (.if_icmp .ne 17, 3) := by decide +kernel
theorem dX6_isOfKind_5 : decode cX6_isOfKind 5 = .ok (.aload_n 1, 1) := by decide +kernel
theorem dX6_isOfKind_6 : decode cX6_isOfKind 6 = .ok (.getfield 121, 3) := by decide +kernel
theorem dX6_isOfKind_9 : decode cX6_isOfKind 9 = .ok (.iconst (-1), 1) := by decide +kernel
theorem dX6_isOfKind_10 : decode cX6_isOfKind 10 = .ok (.if_icmp .eq 7, 3) := by decide +kernel
theorem dX6_isOfKind_13 : decode cX6_isOfKind 13 = .ok (.iconst 1, 1) := by decide +kernel
theorem dX6_isOfKind_14 : decode cX6_isOfKind 14 = .ok (.goto 4, 3) := by decide +kernel
theorem dX6_isOfKind_17 : decode cX6_isOfKind 17 = .ok (.iconst 0, 1) := by decide +kernel
theorem dX6_isOfKind_18 : decode cX6_isOfKind 18 = .ok (.ireturn, 1) := by decide +kernel
theorem dX6_isOfKind_19 : decode cX6_isOfKind 19 = .ok (.aload_n 1, 1) := by decide +kernel
theorem dX6_isOfKind_20 : decode cX6_isOfKind 20 = .ok (.getfield 117, 3) := by decide +kernel
theorem dX6_isOfKind_23 : decode cX6_isOfKind 23 = .ok (.ifCond .ne 5, 3) := by decide +kernel
theorem dX6_isOfKind_26 : decode cX6_isOfKind 26 = .ok (.iconst 0, 1) := by decide +kernel
theorem dX6_isOfKind_27 : decode cX6_isOfKind 27 = .ok (.ireturn, 1) := by decide +kernel
theorem dX6_isOfKind_28 : decode cX6_isOfKind 28 = .ok (.iload_n 2, 1) := by decide +kernel
theorem dX6_isOfKind_29 : decode cX6_isOfKind 29 = .ok (.iconst 5, 1) := by decide +kernel
theorem dX6_isOfKind_30 : decode cX6_isOfKind 30 = .ok (.if_icmp .ne 33, 3) := by decide +kernel
theorem dX6_isOfKind_33 : decode cX6_isOfKind 33 = .ok (.aload_n 1, 1) := by decide +kernel
theorem dX6_isOfKind_34 : decode cX6_isOfKind 34 = .ok (.getfield 124, 3) := by decide +kernel
theorem dX6_isOfKind_37 : decode cX6_isOfKind 37 = .ok (.getfield 141, 3) := by decide +kernel
theorem dX6_isOfKind_40 : decode cX6_isOfKind 40 = .ok (.ifCond .ne 21, 3) := by decide +kernel
theorem dX6_isOfKind_43 : decode cX6_isOfKind 43 = .ok (.aload_n 1, 1) := by decide +kernel
theorem dX6_isOfKind_44 : decode cX6_isOfKind 44 = .ok (.getfield 124, 3) := by decide +kernel
theorem dX6_isOfKind_47 : decode cX6_isOfKind 47 = .ok (.getfield 192, 3) := by decide +kernel
theorem dX6_isOfKind_50 : decode cX6_isOfKind 50 = .ok (.aload_n 0, 1) := by decide +kernel
theorem dX6_isOfKind_51 : decode cX6_isOfKind 51 = .ok (.getfield 78, 3) := by decide +kernel
theorem dX6_isOfKind_54 : decode cX6_isOfKind 54 = .ok (.if_icmp .gt 7, 3) := by decide +kernel
theorem dX6_isOfKind_57 : decode cX6_isOfKind 57 = .ok (.iconst 1, 1) := by decide +kernel
theorem dX6_isOfKind_58 : decode cX6_isOfKind 58 = .ok (.goto 4, 3) := by decide +kernel
theorem dX6_isOfKind_61 : decode cX6_isOfKind 61 = .ok (.iconst 0, 1) := by decide +kernel
theorem dX6_isOfKind_62 : decode cX6_isOfKind 62 = .ok (.ireturn, 1) := by decide +kernel
theorem dX6_isOfKind_63 : decode cX6_isOfKind 63 = .ok (.iload_n 2, 1) := by decide +kernel
theorem dX6_isOfKind_64 : decode cX6_isOfKind 64 = .ok (.bipush 6, 2) := by decide +kernel
theorem dX6_isOfKind_66 : decode cX6_isOfKind 66 = .ok (.if_icmp .ne 14, 3) := by decide +kernel
theorem dX6_isOfKind_69 : decode cX6_isOfKind 69 = .ok (.aload_n 0, 1) := by decide +kernel
theorem dX6_isOfKind_70 : decode cX6_isOfKind 70 = .ok (.aload_n 1, 1) := by decide +kernel
theorem dX6_isOfKind_71 : decode cX6_isOfKind 71 = .ok (.getfield 124, 3) := by decide +kernel
theorem dX6_isOfKind_74 : decode cX6_isOfKind 74 = .ok (.invokevirtual 210, 3) := by decide +kernel
theorem dX6_isOfKind_77 : decode cX6_isOfKind 77 = .ok (.goto 19, 3) := by decide +kernel
theorem dX6_isOfKind_80 : decode cX6_isOfKind 80 = .ok (.aload_n 1, 1) := by decide +kernel
theorem dX6_isOfKind_81 : decode cX6_isOfKind 81 = .ok (.getfield 124, 3) := by decide +kernel
theorem dX6_isOfKind_84 : decode cX6_isOfKind 84 = .ok (.getfield 141, 3) := by decide +kernel
theorem dX6_isOfKind_87 : decode cX6_isOfKind 87 = .ok (.iload_n 2, 1) := by decide +kernel
theorem dX6_isOfKind_88 : decode cX6_isOfKind 88 = .ok (.if_icmp .ne 7, 3) := by decide +kernel
theorem dX6_isOfKind_91 : decode cX6_isOfKind 91 = .ok (.iconst 1, 1) := by decide +kernel
theorem dX6_isOfKind_92 : decode cX6_isOfKind 92 = .ok (.goto 4, 3) := by decide +kernel
theorem dX6_isOfKind_95 : decode cX6_isOfKind 95 = .ok (.iconst 0, 1) := by decide +kernel
theorem dX6_isOfKind_96 : decode cX6_isOfKind 96 = .ok (.ireturn, 1) := by decide +kernel
theorem dX7_readInto_0 : decode cX7_readInto 0 = .ok (.aload_n 1, 1) := by decide +kernel
theorem dX7_readInto_1 : decode cX7_readInto 1 = .ok (.invokevirtual 9, 3) := by decide +kernel
theorem dX7_readInto_4 : decode cX7_readInto 4 = .ok (.aload_n 1, 1) := by decide +kernel
theorem dX7_readInto_5 : decode cX7_readInto 5 = .ok (.invokevirtual 14, 3) := by decide +kernel
theorem dX7_readInto_8 : decode cX7_readInto 8 = .ok (.ifCond .eq 5, 3) := by decide +kernel
theorem dX7_readInto_11 : decode cX7_readInto 11 = .ok (.iconst 1, 1) := by decide +kernel
theorem dX7_readInto_12 : decode cX7_readInto 12 = .ok (.ireturn, 1) := by decide +kernel
theorem dX7_readInto_13 : decode cX7_readInto 13 = .ok (.iconst 0, 1) := by decide +kernel
theorem dX7_readInto_14 : decode cX7_readInto 14 = .ok (.istore_n 2, 1) := by decide +kernel
theorem dX7_readInto_15 : decode cX7_readInto 15 = .ok (.iload_n 2, 1) := by decide +kernel
theorem dX7_readInto_16 : decode cX7_readInto 16 = .ok (.bipush 14, 2) := by decide +kernel
theorem dX7_readInto_18 : decode cX7_readInto 18 = .ok (.if_icmp .ge 32, 3) := by decide +kernel
theorem dX7_readInto_21 : decode cX7_readInto 21 = .ok (.aload_n 0, 1) := by decide +kernel
theorem dX7_readInto_22 : decode cX7_readInto 22 = .ok (.aload_n 1, 1) := by decide +kernel
theorem dX7_readInto_23 : decode cX7_readInto 23 = .ok (.invokestatic 20, 3) := by decide +kernel
theorem dX7_readInto_26 : decode cX7_readInto 26 = .ok (.aload_n 1, 1) := by decide +kernel
theorem dX7_readInto_27 : decode cX7_readInto 27 = .ok (.bipush 59, 2) := by decide +kernel
theorem dX7_readInto_29 : decode cX7_readInto 29 = .ok (.invokevirtual 24, 3) := by decide +kernel
theorem dX7_readInto_32 : decode cX7_readInto 32 = .ok (.ifCond .ne 12, 3) := by decide +kernel
theorem dX7_readInto_35 : decode cX7_readInto 35 = .ok (.aload_n 1, 1) := by decide +kernel
theorem dX7_readInto_36 : decode cX7_readInto 36 = .ok (.invokevirtual 28, 3) := by decide +kernel
theorem dX7_readInto_39 : decode cX7_readInto 39 = .ok (.aload_n 1, 1) := by decide +kernel
theorem dX7_readInto_40 : decode cX7_readInto 40 = .ok (.invokevirtual 31, 3) := by decide +kernel
theorem dX7_readInto_43 : decode cX7_readInto 43 = .ok (.ireturn, 1) := by decide +kernel
theorem dX7_readInto_44 : decode cX7_readInto 44 = .ok (.iinc 2 1, 3) := by decide +kernel
theorem dX7_readInto_47 : decode cX7_readInto 47 = .ok (.goto (-32), 3) := by decide +kernel
theorem dX7_readInto_50 : decode cX7_readInto 50 = .ok (.aload_n 1, 1) := by decide +kernel
theorem dX7_readInto_51 : decode cX7_readInto 51 = .ok (.invokevirtual 34, 3) := by decide +kernel
theorem dX7_readInto_54 : decode cX7_readInto 54 = .ok (.iconst 0, 1) := by decide +kernel
theorem dX7_readInto_55 : decode cX7_readInto 55 = .ok (.ireturn, 1) := by decide +kernel
theorem dX7_readLine_0 : decode cX7_readLine 0 = .ok (.aload_n 0, 1) := by decide +kernel
theorem dX7_readLine_1 : decode cX7_readLine 1 = .ok (.getfield 37, 3) := by decide +kernel
theorem dX7_readLine_4 : decode cX7_readLine 4 = .ok (.bipush 24, 2) := by decide +kernel
theorem dX7_readLine_6 : decode cX7_readLine 6 = .ok (.if_icmp .ge 20, 3) := by decide +kernel
theorem dX7_readLine_9 : decode cX7_readLine 9 = .ok (.aload_n 1, 1) := by decide +kernel
theorem dX7_readLine_10 : decode cX7_readLine 10 = .ok (.ldc 43, 2) := by decide +kernel
theorem dX7_readLine_12 : decode cX7_readLine 12 = .ok (.invokevirtual 45, 3) := by decide +kernel
theorem dX7_readLine_15 : decode cX7_readLine 15 = .ok (.ifCond .eq 11, 3) := by decide +kernel
theorem dX7_readLine_18 : decode cX7_readLine 18 = .ok (.aload_n 0, 1) := by decide +kernel
theorem dX7_readLine_19 : decode cX7_readLine 19 = .ok (.aload_n 1, 1) := by decide +kernel
theorem dX7_readLine_20 : decode cX7_readLine 20 = .ok (.invokestatic 49, 3) := by decide +kernel
theorem dX7_readLine_23 : decode cX7_readLine 23 = .ok (.goto 75, 3) := by decide +kernel
theorem dX7_readLine_26 : decode cX7_readLine 26 = .ok (.aload_n 0, 1) := by decide +kernel
theorem dX7_readLine_27 : decode cX7_readLine 27 = .ok (.getfield 52, 3) := by decide +kernel
theorem dX7_readLine_30 : decode cX7_readLine 30 = .ok (.iconst 4, 1) := by decide +kernel
theorem dX7_readLine_31 : decode cX7_readLine 31 = .ok (.if_icmp .ge 20, 3) := by decide +kernel
theorem dX7_readLine_34 : decode cX7_readLine 34 = .ok (.aload_n 1, 1) := by decide +kernel
theorem dX7_readLine_35 : decode cX7_readLine 35 = .ok (.ldc 55, 2) := by decide +kernel
theorem dX7_readLine_37 : decode cX7_readLine 37 = .ok (.invokevirtual 45, 3) := by decide +kernel
theorem dX7_readLine_40 : decode cX7_readLine 40 = .ok (.ifCond .eq 11, 3) := by decide +kernel
theorem dX7_readLine_43 : decode cX7_readLine 43 = .ok (.aload_n 0, 1) := by decide +kernel
theorem dX7_readLine_44 : decode cX7_readLine 44 = .ok (.aload_n 1, 1) := by decide +kernel
theorem dX7_readLine_45 : decode cX7_readLine 45 = .ok (.invokestatic 57, 3) := by decide +kernel
theorem dX7_readLine_48 : decode cX7_readLine 48 = .ok (.goto 50, 3) := by decide +kernel
theorem dX7_readLine_51 : decode cX7_readLine 51 = .ok (.aload_n 0, 1) := by decide +kernel
theorem dX7_readLine_52 : decode cX7_readLine 52 = .ok (.getfield 60, 3) := by decide +kernel
theorem dX7_readLine_55 : decode cX7_readLine 55 = .ok (.iconst 4, 1) := by decide +kernel
theorem dX7_readLine_56 : decode cX7_readLine 56 = .ok (.if_icmp .ge 20, 3) := by decide +kernel
theorem dX7_readLine_59 : decode cX7_readLine 59 = .ok (.aload_n 1, 1) := by decide +kernel
theorem dX7_readLine_60 : decode cX7_readLine 60 = .ok (.ldc 63, 2) := by decide +kernel
theorem dX7_readLine_62 : decode cX7_readLine 62 = .ok (.invokevirtual 45, 3) := by decide +kernel
theorem dX7_readLine_65 : decode cX7_readLine 65 = .ok (.ifCond .eq 11, 3) := by decide +kernel
theorem dX7_readLine_68 : decode cX7_readLine 68 = .ok (.aload_n 0, 1) := by decide +kernel
theorem dX7_readLine_69 : decode cX7_readLine 69 = .ok (.aload_n 1, 1) := by decide +kernel
theorem dX7_readLine_70 : decode cX7_readLine 70 = .ok (.invokestatic 65, 3) := by decide +kernel
theorem dX7_readLine_73 : decode cX7_readLine 73 = .ok (.goto 25, 3) := by decide +kernel
theorem dX7_readLine_76 : decode cX7_readLine 76 = .ok (.aload_n 1, 1) := by decide +kernel
theorem dX7_readLine_77 : decode cX7_readLine 77 = .ok (.ldc 68, 2) := by decide +kernel
theorem dX7_readLine_79 : decode cX7_readLine 79 = .ok (.invokevirtual 45, 3) := by decide +kernel
theorem dX7_readLine_82 : decode cX7_readLine 82 = .ok (.ifCond .eq 11, 3) := by decide +kernel
theorem dX7_readLine_85 : decode cX7_readLine 85 = .ok (.aload_n 0, 1) := by decide +kernel
theorem dX7_readLine_86 : decode cX7_readLine 86 = .ok (.aload_n 1, 1) := by decide +kernel
theorem dX7_readLine_87 : decode cX7_readLine 87 = .ok (.invokestatic 70, 3) := by decide +kernel
theorem dX7_readLine_90 : decode cX7_readLine 90 = .ok (.goto 8, 3) := by decide +kernel
theorem dX7_readLine_93 : decode cX7_readLine 93 = .ok (.aload_n 0, 1) := by decide +kernel
theorem dX7_readLine_94 : decode cX7_readLine 94 = .ok (.aload_n 1, 1) := by decide +kernel
theorem dX7_readLine_95 : decode cX7_readLine 95 = .ok (.invokestatic 73, 3) := by decide +kernel
theorem dX7_readLine_98 : decode cX7_readLine 98 = .ok (.return_, 1) := by decide +kernel
theorem dX7_readJob_0 : decode cX7_readJob 0 = .ok (.aload_n 1, 1) := by decide +kernel
theorem dX7_readJob_1 : decode cX7_readJob 1 = .ok (.ldc 76, 2) := by decide +kernel
theorem dX7_readJob_3 : decode cX7_readJob 3 = .ok (.iconst 0, 1) := by decide +kernel
theorem dX7_readJob_4 : decode cX7_readJob 4 = .ok (.iconst 5, 1) := by decide +kernel
theorem dX7_readJob_5 : decode cX7_readJob 5 = .ok (.invokevirtual 78, 3) := by decide +kernel
theorem dX7_readJob_8 : decode cX7_readJob 8 = .ok (.istore_n 2, 1) := by decide +kernel
theorem dX7_readJob_9 : decode cX7_readJob 9 = .ok (.aload_n 1, 1) := by decide +kernel
theorem dX7_readJob_10 : decode cX7_readJob 10 = .ok (.ldc 82, 2) := by decide +kernel
theorem dX7_readJob_12 : decode cX7_readJob 12 = .ok (.iconst 0, 1) := by decide +kernel
theorem dX7_readJob_13 : decode cX7_readJob 13 = .ok (.bipush 9, 2) := by decide +kernel
theorem dX7_readJob_15 : decode cX7_readJob 15 = .ok (.invokevirtual 78, 3) := by decide +kernel
theorem dX7_readJob_18 : decode cX7_readJob 18 = .ok (.istore_n 3, 1) := by decide +kernel
theorem dX7_readJob_19 : decode cX7_readJob 19 = .ok (.aload_n 1, 1) := by decide +kernel
theorem dX7_readJob_20 : decode cX7_readJob 20 = .ok (.ldc 84, 2) := by decide +kernel
theorem dX7_readJob_22 : decode cX7_readJob 22 = .ok (.iconst 1, 1) := by decide +kernel
theorem dX7_readJob_23 : decode cX7_readJob 23 = .ok (.bipush 9, 2) := by decide +kernel
theorem dX7_readJob_25 : decode cX7_readJob 25 = .ok (.invokevirtual 78, 3) := by decide +kernel
theorem dX7_readJob_28 : decode cX7_readJob 28 = .ok (.istore 4, 2) := by decide +kernel
theorem dX7_readJob_30 : decode cX7_readJob 30 = .ok (.aload_n 1, 1) := by decide +kernel
theorem dX7_readJob_31 : decode cX7_readJob 31 = .ok (.ldc 86, 2) := by decide +kernel
theorem dX7_readJob_33 : decode cX7_readJob 33 = .ok (.invokevirtual 45, 3) := by decide +kernel
theorem dX7_readJob_36 : decode cX7_readJob 36 = .ok (.ifCond .eq 13, 3) := by decide +kernel
theorem dX7_readJob_39 : decode cX7_readJob 39 = .ok (.aload_n 1, 1) := by decide +kernel
theorem dX7_readJob_40 : decode cX7_readJob 40 = .ok (.iconst 0, 1) := by decide +kernel
theorem dX7_readJob_41 : decode cX7_readJob 41 = .ok (.bipush 99, 2) := by decide +kernel
theorem dX7_readJob_43 : decode cX7_readJob 43 = .ok (.invokevirtual 88, 3) := by decide +kernel
theorem dX7_readJob_46 : decode cX7_readJob 46 = .ok (.goto 4, 3) := by decide +kernel
theorem dX7_readJob_49 : decode cX7_readJob 49 = .ok (.iconst 0, 1) := by decide +kernel
theorem dX7_readJob_50 : decode cX7_readJob 50 = .ok (.istore 5, 2) := by decide +kernel
theorem dX7_readJob_52 : decode cX7_readJob 52 = .ok (.aload_n 1, 1) := by decide +kernel
theorem dX7_readJob_53 : decode cX7_readJob 53 = .ok (.invokevirtual 31, 3) := by decide +kernel
theorem dX7_readJob_56 : decode cX7_readJob 56 = .ok (.ifCond .ne 4, 3) := by decide +kernel
theorem dX7_readJob_59 : decode cX7_readJob 59 = .ok (.return_, 1) := by decide +kernel
theorem dX7_readJob_60 : decode cX7_readJob 60 = .ok (.aload_n 0, 1) := by decide +kernel
theorem dX7_readJob_61 : decode cX7_readJob 61 = .ok (.iload_n 2, 1) := by decide +kernel
theorem dX7_readJob_62 : decode cX7_readJob 62 = .ok (.iload_n 3, 1) := by decide +kernel
theorem dX7_readJob_63 : decode cX7_readJob 63 = .ok (.iload 4, 2) := by decide +kernel
theorem dX7_readJob_65 : decode cX7_readJob 65 = .ok (.invokevirtual 92, 3) := by decide +kernel
theorem dX7_readJob_68 : decode cX7_readJob 68 = .ok (.astore 6, 2) := by decide +kernel
theorem dX7_readJob_70 : decode cX7_readJob 70 = .ok (.aload 6, 2) := by decide +kernel
theorem dX7_readJob_72 : decode cX7_readJob 72 = .ok (.ifnull 18, 3) := by decide +kernel
theorem dX7_readJob_75 : decode cX7_readJob 75 = .ok (.aload 6, 2) := by decide +kernel
theorem dX7_readJob_77 : decode cX7_readJob 77 = .ok (.getfield 96, 3) := by decide +kernel
theorem dX7_readJob_80 : decode cX7_readJob 80 = .ok (.aload_n 0, 1) := by decide +kernel
theorem dX7_readJob_81 : decode cX7_readJob 81 = .ok (.getfield 102, 3) := by decide +kernel
theorem dX7_readJob_84 : decode cX7_readJob 84 = .ok (.iload 5, 2) := by decide +kernel
theorem dX7_readJob_86 : decode cX7_readJob 86 = .ok (.iadd, 1) := by decide +kernel
theorem dX7_readJob_87 : decode cX7_readJob 87 = .ok (.putfield 105, 3) := by decide +kernel
theorem dX7_readJob_90 : decode cX7_readJob 90 = .ok (.return_, 1) := by decide +kernel
theorem dX7_readSession_0 : decode cX7_readSession 0 = .ok (.iconst 0, 1) := by decide +kernel
theorem dX7_readSession_1 : decode cX7_readSession 1 = .ok (.istore_n 2, 1) := by decide +kernel
theorem dX7_readSession_2 : decode cX7_readSession 2 = .ok (.aload_n 1, 1) := by decide +kernel
theorem dX7_readSession_3 : decode cX7_readSession 3 = .ok (.ldc 110, 2) := by decide +kernel
theorem dX7_readSession_5 : decode cX7_readSession 5 = .ok (.invokevirtual 45, 3) := by decide +kernel
theorem dX7_readSession_8 : decode cX7_readSession 8 = .ok (.ifCond .eq 14, 3) := by decide +kernel
theorem dX7_readSession_11 : decode cX7_readSession 11 = .ok (.aload_n 1, 1) := by decide +kernel
theorem dX7_readSession_12 : decode cX7_readSession 12 = .ok (.iconst 0, 1) := by decide +kernel
theorem dX7_readSession_13 : decode cX7_readSession 13 = .ok (.bipush 9, 2) := by decide +kernel
theorem dX7_readSession_15 : decode cX7_readSession 15 = .ok (.invokevirtual 88, 3) := by decide +kernel
theorem dX7_readSession_18 : decode cX7_readSession 18 = .ok (.istore_n 2, 1) := by decide +kernel
theorem dX7_readSession_19 : decode cX7_readSession 19 = .ok (.goto 21, 3) := by decide +kernel
theorem dX7_readSession_22 : decode cX7_readSession 22 = .ok (.aload_n 1, 1) := by decide +kernel
theorem dX7_readSession_23 : decode cX7_readSession 23 = .ok (.ldc 112, 2) := by decide +kernel
theorem dX7_readSession_25 : decode cX7_readSession 25 = .ok (.invokevirtual 45, 3) := by decide +kernel
theorem dX7_readSession_28 : decode cX7_readSession 28 = .ok (.ifCond .eq 12, 3) := by decide +kernel
theorem dX7_readSession_31 : decode cX7_readSession 31 = .ok (.aload_n 1, 1) := by decide +kernel
theorem dX7_readSession_32 : decode cX7_readSession 32 = .ok (.iconst 0, 1) := by decide +kernel
theorem dX7_readSession_33 : decode cX7_readSession 33 = .ok (.bipush 9, 2) := by decide +kernel
theorem dX7_readSession_35 : decode cX7_readSession 35 = .ok (.invokevirtual 88, 3) := by decide +kernel
theorem dX7_readSession_38 : decode cX7_readSession 38 = .ok (.ineg, 1) := by decide +kernel
theorem dX7_readSession_39 : decode cX7_readSession 39 = .ok (.istore_n 2, 1) := by decide +kernel
theorem dX7_readSession_40 : decode cX7_readSession 40 = .ok (.aload_n 1, 1) := by decide +kernel
theorem dX7_readSession_41 : decode cX7_readSession 41 = .ok (.invokevirtual 31, 3) := by decide +kernel
theorem dX7_readSession_44 : decode cX7_readSession 44 = .ok (.ifCond .eq 8, 3) := by decide +kernel
theorem dX7_readSession_47 : decode cX7_readSession 47 = .ok (.aload_n 0, 1) := by decide +kernel
theorem dX7_readSession_48 : decode cX7_readSession 48 = .ok (.iload_n 2, 1) := by decide +kernel
theorem dX7_readSession_49 : decode cX7_readSession 49 = .ok (.invokevirtual 114, 3) := by decide +kernel
theorem dX7_readSession_52 : decode cX7_readSession 52 = .ok (.return_, 1) := by decide +kernel
theorem dX7_readSchedule_0 : decode cX7_readSchedule 0 = .ok (.aload_n 0, 1) := by decide +kernel
theorem dX7_readSchedule_1 : decode cX7_readSchedule 1 = .ok (.getfield 118, 3) := by decide +kernel
theorem dX7_readSchedule_4 : decode cX7_readSchedule 4 = .ok (.aload_n 0, 1) := by decide +kernel
theorem dX7_readSchedule_5 : decode cX7_readSchedule 5 = .ok (.getfield 60, 3) := by decide +kernel
theorem dX7_readSchedule_8 : decode cX7_readSchedule 8 = .ok (.aaload, 1) := by decide +kernel
theorem dX7_readSchedule_9 : decode cX7_readSchedule 9 = .ok (.astore_n 2, 1) := by decide +kernel
theorem dX7_readSchedule_10 : decode cX7_readSchedule 10 = .ok (.aload_n 2, 1) := by decide +kernel
theorem dX7_readSchedule_11 : decode cX7_readSchedule 11 = .ok (.aload_n 1, 1) := by decide +kernel
theorem dX7_readSchedule_12 : decode cX7_readSchedule 12 = .ok (.iconst 1, 1) := by decide +kernel
theorem dX7_readSchedule_13 : decode cX7_readSchedule 13 = .ok (.bipush 60, 2) := by decide +kernel
theorem dX7_readSchedule_15 : decode cX7_readSchedule 15 = .ok (.invokevirtual 88, 3) := by decide +kernel
theorem dX7_readSchedule_18 : decode cX7_readSchedule 18 = .ok (.putfield 122, 3) := by decide +kernel
theorem dX7_readSchedule_21 : decode cX7_readSchedule 21 = .ok (.aload_n 2, 1) := by decide +kernel
theorem dX7_readSchedule_22 : decode cX7_readSchedule 22 = .ok (.aload_n 1, 1) := by decide +kernel
theorem dX7_readSchedule_23 : decode cX7_readSchedule 23 = .ok (.ldc 126, 2) := by decide +kernel
theorem dX7_readSchedule_25 : decode cX7_readSchedule 25 = .ok (.iconst 0, 1) := by decide +kernel
theorem dX7_readSchedule_26 : decode cX7_readSchedule 26 = .ok (.bipush 59, 2) := by decide +kernel
theorem dX7_readSchedule_28 : decode cX7_readSchedule 28 = .ok (.invokevirtual 78, 3) := by decide +kernel
theorem dX7_readSchedule_31 : decode cX7_readSchedule 31 = .ok (.putfield 128, 3) := by decide +kernel
theorem dX7_readSchedule_34 : decode cX7_readSchedule 34 = .ok (.aload_n 2, 1) := by decide +kernel
theorem dX7_readSchedule_35 : decode cX7_readSchedule 35 = .ok (.aload_n 1, 1) := by decide +kernel
theorem dX7_readSchedule_36 : decode cX7_readSchedule 36 = .ok (.ldc 76, 2) := by decide +kernel
theorem dX7_readSchedule_38 : decode cX7_readSchedule 38 = .ok (.iconst 0, 1) := by decide +kernel
theorem dX7_readSchedule_39 : decode cX7_readSchedule 39 = .ok (.iconst 5, 1) := by decide +kernel
theorem dX7_readSchedule_40 : decode cX7_readSchedule 40 = .ok (.invokevirtual 78, 3) := by decide +kernel
theorem dX7_readSchedule_43 : decode cX7_readSchedule 43 = .ok (.putfield 130, 3) := by decide +kernel
theorem dX7_readSchedule_46 : decode cX7_readSchedule 46 = .ok (.aload_n 2, 1) := by decide +kernel
theorem dX7_readSchedule_47 : decode cX7_readSchedule 47 = .ok (.aload_n 1, 1) := by decide +kernel
theorem dX7_readSchedule_48 : decode cX7_readSchedule 48 = .ok (.ldc 82, 2) := by decide +kernel
theorem dX7_readSchedule_50 : decode cX7_readSchedule 50 = .ok (.iconst 0, 1) := by decide +kernel
theorem dX7_readSchedule_51 : decode cX7_readSchedule 51 = .ok (.bipush 9, 2) := by decide +kernel
theorem dX7_readSchedule_53 : decode cX7_readSchedule 53 = .ok (.invokevirtual 78, 3) := by decide +kernel
theorem dX7_readSchedule_56 : decode cX7_readSchedule 56 = .ok (.putfield 132, 3) := by decide +kernel
theorem dX7_readSchedule_59 : decode cX7_readSchedule 59 = .ok (.aload_n 2, 1) := by decide +kernel
theorem dX7_readSchedule_60 : decode cX7_readSchedule 60 = .ok (.aload_n 1, 1) := by decide +kernel
theorem dX7_readSchedule_61 : decode cX7_readSchedule 61 = .ok (.ldc 84, 2) := by decide +kernel
theorem dX7_readSchedule_63 : decode cX7_readSchedule 63 = .ok (.iconst 1, 1) := by decide +kernel
theorem dX7_readSchedule_64 : decode cX7_readSchedule 64 = .ok (.bipush 9, 2) := by decide +kernel
theorem dX7_readSchedule_66 : decode cX7_readSchedule 66 = .ok (.invokevirtual 78, 3) := by decide +kernel
theorem dX7_readSchedule_69 : decode cX7_readSchedule 69 = .ok (.putfield 134, 3) := by decide +kernel
theorem dX7_readSchedule_72 : decode cX7_readSchedule 72 = .ok (.aload_n 2, 1) := by decide +kernel
theorem dX7_readSchedule_73 : decode cX7_readSchedule 73 = .ok (.iconst 0, 1) := by decide +kernel
theorem dX7_readSchedule_74 : decode cX7_readSchedule 74 = .ok (.putfield 136, 3) := by decide +kernel
theorem dX7_readSchedule_77 : decode cX7_readSchedule 77 = .ok (.aload_n 2, 1) := by decide +kernel
theorem dX7_readSchedule_78 : decode cX7_readSchedule 78 = .ok (.iconst 0, 1) := by decide +kernel
theorem dX7_readSchedule_79 : decode cX7_readSchedule 79 = .ok (.putfield 139, 3) := by decide +kernel
theorem dX7_readSchedule_82 : decode cX7_readSchedule 82 = .ok (.aload_n 1, 1) := by decide +kernel
theorem dX7_readSchedule_83 : decode cX7_readSchedule 83 = .ok (.ldc 142, 2) := by decide +kernel
theorem dX7_readSchedule_85 : decode cX7_readSchedule 85 = .ok (.invokevirtual 45, 3) := by decide +kernel
theorem dX7_readSchedule_88 : decode cX7_readSchedule 88 = .ok (.ifCond .eq 11, 3) := by decide +kernel
theorem dX7_readSchedule_91 : decode cX7_readSchedule 91 = .ok (.aload_n 2, 1) := by decide +kernel
theorem dX7_readSchedule_92 : decode cX7_readSchedule 92 = .ok (.iconst 1, 1) := by decide +kernel
theorem dX7_readSchedule_93 : decode cX7_readSchedule 93 = .ok (.putfield 136, 3) := by decide +kernel
theorem dX7_readSchedule_96 : decode cX7_readSchedule 96 = .ok (.goto 28, 3) := by decide +kernel
theorem dX7_readSchedule_99 : decode cX7_readSchedule 99 = .ok (.aload_n 1, 1) := by decide +kernel
theorem dX7_readSchedule_100 : decode cX7_readSchedule 100 = .ok (.ldc 144, 2) := by decide +kernel
theorem dX7_readSchedule_102 : decode cX7_readSchedule 102 = .ok (.invokevirtual 45, 3) := by decide +kernel
theorem dX7_readSchedule_105 : decode cX7_readSchedule 105 = .ok (.ifCond .eq 19, 3) := by decide +kernel
theorem dX7_readSchedule_108 : decode cX7_readSchedule 108 = .ok (.aload_n 2, 1) := by decide +kernel
theorem dX7_readSchedule_109 : decode cX7_readSchedule 109 = .ok (.iconst 2, 1) := by decide +kernel
theorem dX7_readSchedule_110 : decode cX7_readSchedule 110 = .ok (.putfield 136, 3) := by decide +kernel
theorem dX7_readSchedule_113 : decode cX7_readSchedule 113 = .ok (.aload_n 2, 1) := by decide +kernel
theorem dX7_readSchedule_114 : decode cX7_readSchedule 114 = .ok (.aload_n 1, 1) := by decide +kernel
theorem dX7_readSchedule_115 : decode cX7_readSchedule 115 = .ok (.iconst 0, 1) := by decide +kernel
theorem dX7_readSchedule_116 : decode cX7_readSchedule 116 = .ok (.bipush 9, 2) := by decide +kernel
theorem dX7_readSchedule_118 : decode cX7_readSchedule 118 = .ok (.invokevirtual 88, 3) := by decide +kernel
theorem dX7_readSchedule_121 : decode cX7_readSchedule 121 = .ok (.putfield 139, 3) := by decide +kernel
theorem dX7_readSchedule_124 : decode cX7_readSchedule 124 = .ok (.aload_n 1, 1) := by decide +kernel
theorem dX7_readSchedule_125 : decode cX7_readSchedule 125 = .ok (.invokevirtual 31, 3) := by decide +kernel
theorem dX7_readSchedule_128 : decode cX7_readSchedule 128 = .ok (.ifCond .eq 25, 3) := by decide +kernel
theorem dX7_readSchedule_131 : decode cX7_readSchedule 131 = .ok (.aload_n 2, 1) := by decide +kernel
theorem dX7_readSchedule_132 : decode cX7_readSchedule 132 = .ok (.aload_n 2, 1) := by decide +kernel
theorem dX7_readSchedule_133 : decode cX7_readSchedule 133 = .ok (.aload_n 0, 1) := by decide +kernel
theorem dX7_readSchedule_134 : decode cX7_readSchedule 134 = .ok (.getfield 145, 3) := by decide +kernel
theorem dX7_readSchedule_137 : decode cX7_readSchedule 137 = .ok (.invokevirtual 148, 3) := by decide +kernel
theorem dX7_readSchedule_140 : decode cX7_readSchedule 140 = .ok (.putfield 152, 3) := by decide +kernel
theorem dX7_readSchedule_143 : decode cX7_readSchedule 143 = .ok (.aload_n 0, 1) := by decide +kernel
theorem dX7_readSchedule_144 : decode cX7_readSchedule 144 = .ok (.dup, 1) := by decide +kernel
theorem dX7_readSchedule_145 : decode cX7_readSchedule 145 = .ok (.getfield 60, 3) := by decide +kernel
theorem dX7_readSchedule_148 : decode cX7_readSchedule 148 = .ok (.iconst 1, 1) := by decide +kernel
theorem dX7_readSchedule_149 : decode cX7_readSchedule 149 = .ok (.iadd, 1) := by decide +kernel
theorem dX7_readSchedule_150 : decode cX7_readSchedule 150 = .ok (.putfield 60, 3) := by decide +kernel
theorem dX7_readSchedule_153 : decode cX7_readSchedule 153 = .ok (.return_, 1) := by decide +kernel
theorem dX7_readParallel_0 : decode cX7_readParallel 0 = .ok (.aload_n 1, 1) := by decide +kernel
theorem dX7_readParallel_1 : decode cX7_readParallel 1 = .ok (.iconst 0, 1) := by decide +kernel
theorem dX7_readParallel_2 : decode cX7_readParallel 2 = .ok (.iconst 5, 1) := by decide +kernel
theorem dX7_readParallel_3 : decode cX7_readParallel 3 = .ok (.invokevirtual 88, 3) := by decide +kernel
theorem dX7_readParallel_6 : decode cX7_readParallel 6 = .ok (.istore_n 2, 1) := by decide +kernel
theorem dX7_readParallel_7 : decode cX7_readParallel 7 = .ok (.aload_n 1, 1) := by decide +kernel
theorem dX7_readParallel_8 : decode cX7_readParallel 8 = .ok (.iconst 1, 1) := by decide +kernel
theorem dX7_readParallel_9 : decode cX7_readParallel 9 = .ok (.iconst 4, 1) := by decide +kernel
theorem dX7_readParallel_10 : decode cX7_readParallel 10 = .ok (.invokevirtual 88, 3) := by decide +kernel
theorem dX7_readParallel_13 : decode cX7_readParallel 13 = .ok (.istore_n 3, 1) := by decide +kernel
theorem dX7_readParallel_14 : decode cX7_readParallel 14 = .ok (.aload_n 1, 1) := by decide +kernel
theorem dX7_readParallel_15 : decode cX7_readParallel 15 = .ok (.invokevirtual 31, 3) := by decide +kernel
theorem dX7_readParallel_18 : decode cX7_readParallel 18 = .ok (.ifCond .eq 10, 3) := by decide +kernel
theorem dX7_readParallel_21 : decode cX7_readParallel 21 = .ok (.aload_n 0, 1) := by decide +kernel
theorem dX7_readParallel_22 : decode cX7_readParallel 22 = .ok (.getfield 155, 3) := by decide +kernel
theorem dX7_readParallel_25 : decode cX7_readParallel 25 = .ok (.iload_n 2, 1) := by decide +kernel
theorem dX7_readParallel_26 : decode cX7_readParallel 26 = .ok (.iload_n 3, 1) := by decide +kernel
theorem dX7_readParallel_27 : decode cX7_readParallel 27 = .ok (.iastore, 1) := by decide +kernel
theorem dX7_readParallel_28 : decode cX7_readParallel 28 = .ok (.return_, 1) := by decide +kernel
theorem dX7_readSetting_0 : decode cX7_readSetting 0 = .ok (.aload_n 1, 1) := by decide +kernel
theorem dX7_readSetting_1 : decode cX7_readSetting 1 = .ok (.ldc 158, 2) := by decide +kernel
theorem dX7_readSetting_3 : decode cX7_readSetting 3 = .ok (.invokevirtual 45, 3) := by decide +kernel
theorem dX7_readSetting_6 : decode cX7_readSetting 6 = .ok (.ifCond .eq 19, 3) := by decide +kernel
theorem dX7_readSetting_9 : decode cX7_readSetting 9 = .ok (.aload_n 0, 1) := by decide +kernel
theorem dX7_readSetting_10 : decode cX7_readSetting 10 = .ok (.getfield 160, 3) := by decide +kernel
theorem dX7_readSetting_13 : decode cX7_readSetting 13 = .ok (.iconst 0, 1) := by decide +kernel
theorem dX7_readSetting_14 : decode cX7_readSetting 14 = .ok (.aload_n 1, 1) := by decide +kernel
theorem dX7_readSetting_15 : decode cX7_readSetting 15 = .ok (.iconst 1, 1) := by decide +kernel
theorem dX7_readSetting_16 : decode cX7_readSetting 16 = .ok (.bipush 60, 2) := by decide +kernel
theorem dX7_readSetting_18 : decode cX7_readSetting 18 = .ok (.invokevirtual 88, 3) := by decide +kernel
theorem dX7_readSetting_21 : decode cX7_readSetting 21 = .ok (.iastore, 1) := by decide +kernel
theorem dX7_readSetting_22 : decode cX7_readSetting 22 = .ok (.goto 107, 3) := by decide +kernel
theorem dX7_readSetting_25 : decode cX7_readSetting 25 = .ok (.aload_n 1, 1) := by decide +kernel
theorem dX7_readSetting_26 : decode cX7_readSetting 26 = .ok (.ldc 163, 2) := by decide +kernel
theorem dX7_readSetting_28 : decode cX7_readSetting 28 = .ok (.invokevirtual 45, 3) := by decide +kernel
theorem dX7_readSetting_31 : decode cX7_readSetting 31 = .ok (.ifCond .eq 19, 3) := by decide +kernel
theorem dX7_readSetting_34 : decode cX7_readSetting 34 = .ok (.aload_n 0, 1) := by decide +kernel
theorem dX7_readSetting_35 : decode cX7_readSetting 35 = .ok (.getfield 160, 3) := by decide +kernel
theorem dX7_readSetting_38 : decode cX7_readSetting 38 = .ok (.iconst 1, 1) := by decide +kernel
theorem dX7_readSetting_39 : decode cX7_readSetting 39 = .ok (.aload_n 1, 1) := by decide +kernel
theorem dX7_readSetting_40 : decode cX7_readSetting 40 = .ok (.iconst 1, 1) := by decide +kernel
theorem dX7_readSetting_41 : decode cX7_readSetting 41 = .ok (.bipush 9, 2) := by decide +kernel
theorem dX7_readSetting_43 : decode cX7_readSetting 43 = .ok (.invokevirtual 88, 3) := by decide +kernel
theorem dX7_readSetting_46 : decode cX7_readSetting 46 = .ok (.iastore, 1) := by decide +kernel
theorem dX7_readSetting_47 : decode cX7_readSetting 47 = .ok (.goto 82, 3) := by decide +kernel
theorem dX7_readSetting_50 : decode cX7_readSetting 50 = .ok (.aload_n 1, 1) := by decide +kernel
theorem dX7_readSetting_51 : decode cX7_readSetting 51 = .ok (.ldc 164, 2) := by decide +kernel
theorem dX7_readSetting_53 : decode cX7_readSetting 53 = .ok (.invokevirtual 45, 3) := by decide +kernel
theorem dX7_readSetting_56 : decode cX7_readSetting 56 = .ok (.ifCond .eq 19, 3) := by decide +kernel
theorem dX7_readSetting_59 : decode cX7_readSetting 59 = .ok (.aload_n 0, 1) := by decide +kernel
theorem dX7_readSetting_60 : decode cX7_readSetting 60 = .ok (.getfield 160, 3) := by decide +kernel
theorem dX7_readSetting_63 : decode cX7_readSetting 63 = .ok (.iconst 2, 1) := by decide +kernel
theorem dX7_readSetting_64 : decode cX7_readSetting 64 = .ok (.aload_n 1, 1) := by decide +kernel
theorem dX7_readSetting_65 : decode cX7_readSetting 65 = .ok (.iconst 1, 1) := by decide +kernel
theorem dX7_readSetting_66 : decode cX7_readSetting 66 = .ok (.bipush 99, 2) := by decide +kernel
theorem dX7_readSetting_68 : decode cX7_readSetting 68 = .ok (.invokevirtual 88, 3) := by decide +kernel
theorem dX7_readSetting_71 : decode cX7_readSetting 71 = .ok (.iastore, 1) := by decide +kernel
theorem dX7_readSetting_72 : decode cX7_readSetting 72 = .ok (.goto 57, 3) := by decide +kernel
theorem dX7_readSetting_75 : decode cX7_readSetting 75 = .ok (.aload_n 1, 1) := by decide +kernel
theorem dX7_readSetting_76 : decode cX7_readSetting 76 = .ok (.ldc 166, 2) := by decide +kernel
theorem dX7_readSetting_78 : decode cX7_readSetting 78 = .ok (.invokevirtual 45, 3) := by decide +kernel
theorem dX7_readSetting_81 : decode cX7_readSetting 81 = .ok (.ifCond .eq 19, 3) := by decide +kernel
theorem dX7_readSetting_84 : decode cX7_readSetting 84 = .ok (.aload_n 0, 1) := by decide +kernel
theorem dX7_readSetting_85 : decode cX7_readSetting 85 = .ok (.getfield 160, 3) := by decide +kernel
theorem dX7_readSetting_88 : decode cX7_readSetting 88 = .ok (.iconst 3, 1) := by decide +kernel
theorem dX7_readSetting_89 : decode cX7_readSetting 89 = .ok (.aload_n 1, 1) := by decide +kernel
theorem dX7_readSetting_90 : decode cX7_readSetting 90 = .ok (.iconst 0, 1) := by decide +kernel
theorem dX7_readSetting_91 : decode cX7_readSetting 91 = .ok (.bipush 9, 2) := by decide +kernel
theorem dX7_readSetting_93 : decode cX7_readSetting 93 = .ok (.invokevirtual 88, 3) := by decide +kernel
theorem dX7_readSetting_96 : decode cX7_readSetting 96 = .ok (.iastore, 1) := by decide +kernel
theorem dX7_readSetting_97 : decode cX7_readSetting 97 = .ok (.goto 32, 3) := by decide +kernel
theorem dX7_readSetting_100 : decode cX7_readSetting 100 = .ok (.aload_n 1, 1) := by decide +kernel
theorem dX7_readSetting_101 : decode cX7_readSetting 101 = .ok (.ldc 168, 2) := by decide +kernel
theorem dX7_readSetting_103 : decode cX7_readSetting 103 = .ok (.invokevirtual 45, 3) := by decide +kernel
theorem dX7_readSetting_106 : decode cX7_readSetting 106 = .ok (.ifCond .eq 19, 3) := by decide +kernel
theorem dX7_readSetting_109 : decode cX7_readSetting 109 = .ok (.aload_n 0, 1) := by decide +kernel
theorem dX7_readSetting_110 : decode cX7_readSetting 110 = .ok (.getfield 160, 3) := by decide +kernel
theorem dX7_readSetting_113 : decode cX7_readSetting 113 = .ok (.iconst 4, 1) := by decide +kernel
theorem dX7_readSetting_114 : decode cX7_readSetting 114 = .ok (.aload_n 1, 1) := by decide +kernel
theorem dX7_readSetting_115 : decode cX7_readSetting 115 = .ok (.iconst 1, 1) := by decide +kernel
theorem dX7_readSetting_116 : decode cX7_readSetting 116 = .ok (.bipush 9, 2) := by decide +kernel
theorem dX7_readSetting_118 : decode cX7_readSetting 118 = .ok (.invokevirtual 88, 3) := by decide +kernel
theorem dX7_readSetting_121 : decode cX7_readSetting 121 = .ok (.iastore, 1) := by decide +kernel
theorem dX7_readSetting_122 : decode cX7_readSetting 122 = .ok (.goto 7, 3) := by decide +kernel
theorem dX7_readSetting_125 : decode cX7_readSetting 125 = .ok (.aload_n 1, 1) := by decide +kernel
theorem dX7_readSetting_126 : decode cX7_readSetting 126 = .ok (.invokevirtual 34, 3) := by decide +kernel
theorem dX7_readSetting_129 : decode cX7_readSetting 129 = .ok (.return_, 1) := by decide +kernel
theorem dX8_init_0 : decode cX8_init 0 = .ok (.aload_n 0, 1) := by decide +kernel
theorem dX8_init_1 : decode cX8_init 1 = .ok (.invokespecial 3, 3) := by decide +kernel
theorem dX8_init_4 : decode cX8_init 4 = .ok (.aload_n 0, 1) := by decide +kernel
theorem dX8_init_5 : decode cX8_init 5 = .ok (.sipush 400, 3) := by decide +kernel
theorem dX8_init_8 : decode cX8_init 8 = .ok (.newarray .byte, 2) := by decide +kernel
theorem dX8_init_10 : decode cX8_init 10 = .ok (.putfield 11, 3) := by decide +kernel
theorem dX8_init_13 : decode cX8_init 13 = .ok (.aload_n 0, 1) := by decide +kernel
theorem dX8_init_14 : decode cX8_init 14 = .ok (.iconst (-1), 1) := by decide +kernel
theorem dX8_init_15 : decode cX8_init 15 = .ok (.putfield 15, 3) := by decide +kernel
theorem dX8_init_18 : decode cX8_init 18 = .ok (.return_, 1) := by decide +kernel
theorem dX8_hasRoom_0 : decode cX8_hasRoom 0 = .ok (.aload_n 0, 1) := by decide +kernel
theorem dX8_hasRoom_1 : decode cX8_hasRoom 1 = .ok (.getfield 19, 3) := by decide +kernel
theorem dX8_hasRoom_4 : decode cX8_hasRoom 4 = .ok (.bipush 20, 2) := by decide +kernel
theorem dX8_hasRoom_6 : decode cX8_hasRoom 6 = .ok (.iadd, 1) := by decide +kernel
theorem dX8_hasRoom_7 : decode cX8_hasRoom 7 = .ok (.sipush 400, 3) := by decide +kernel
theorem dX8_hasRoom_10 : decode cX8_hasRoom 10 = .ok (.if_icmp .gt 7, 3) := by decide +kernel
theorem dX8_hasRoom_13 : decode cX8_hasRoom 13 = .ok (.iconst 1, 1) := by decide +kernel
theorem dX8_hasRoom_14 : decode cX8_hasRoom 14 = .ok (.goto 4, 3) := by decide +kernel
theorem dX8_hasRoom_17 : decode cX8_hasRoom 17 = .ok (.iconst 0, 1) := by decide +kernel
theorem dX8_hasRoom_18 : decode cX8_hasRoom 18 = .ok (.ireturn, 1) := by decide +kernel
theorem dX8_append_0 : decode cX8_append 0 = .ok (.bipush 24, 2) := by decide +kernel
theorem dX8_append_2 : decode cX8_append 2 = .ok (.istore_n 2, 1) := by decide +kernel
theorem dX8_append_3 : decode cX8_append 3 = .ok (.iload_n 2, 1) := by decide +kernel
theorem dX8_append_4 : decode cX8_append 4 = .ok (.ifCond .lt 42, 3) := by decide +kernel
theorem dX8_append_7 : decode cX8_append 7 = .ok (.aload_n 0, 1) := by decide +kernel
theorem dX8_append_8 : decode cX8_append 8 = .ok (.getfield 19, 3) := by decide +kernel
theorem dX8_append_11 : decode cX8_append 11 = .ok (.sipush 400, 3) := by decide +kernel
theorem dX8_append_14 : decode cX8_append 14 = .ok (.if_icmp .ge 32, 3) := by decide +kernel
theorem dX8_append_17 : decode cX8_append 17 = .ok (.aload_n 0, 1) := by decide +kernel
theorem dX8_append_18 : decode cX8_append 18 = .ok (.getfield 11, 3) := by decide +kernel
theorem dX8_append_21 : decode cX8_append 21 = .ok (.aload_n 0, 1) := by decide +kernel
theorem dX8_append_22 : decode cX8_append 22 = .ok (.getfield 19, 3) := by decide +kernel
theorem dX8_append_25 : decode cX8_append 25 = .ok (.iload_n 1, 1) := by decide +kernel
theorem dX8_append_26 : decode cX8_append 26 = .ok (.iload_n 2, 1) := by decide +kernel
theorem dX8_append_27 : decode cX8_append 27 = .ok (.ishr, 1) := by decide +kernel
theorem dX8_append_28 : decode cX8_append 28 = .ok (.i2b, 1) := by decide +kernel
theorem dX8_append_29 : decode cX8_append 29 = .ok (.bastore, 1) := by decide +kernel
theorem dX8_append_30 : decode cX8_append 30 = .ok (.aload_n 0, 1) := by decide +kernel
theorem dX8_append_31 : decode cX8_append 31 = .ok (.dup, 1) := by decide +kernel
theorem dX8_append_32 : decode cX8_append 32 = .ok (.getfield 19, 3) := by decide +kernel
theorem dX8_append_35 : decode cX8_append 35 = .ok (.iconst 1, 1) := by decide +kernel
theorem dX8_append_36 : decode cX8_append 36 = .ok (.iadd, 1) := by decide +kernel
theorem dX8_append_37 : decode cX8_append 37 = .ok (.putfield 19, 3) := by decide +kernel
theorem dX8_append_40 : decode cX8_append 40 = .ok (.iinc 2 (-8), 3) := by decide +kernel
theorem dX8_append_43 : decode cX8_append 43 = .ok (.goto (-40), 3) := by decide +kernel
theorem dX8_append_46 : decode cX8_append 46 = .ok (.return_, 1) := by decide +kernel
theorem dX8_useUp_0 : decode cX8_useUp 0 = .ok (.aload_n 0, 1) := by decide +kernel
theorem dX8_useUp_1 : decode cX8_useUp 1 = .ok (.aload_n 0, 1) := by decide +kernel
theorem dX8_useUp_2 : decode cX8_useUp 2 = .ok (.getfield 19, 3) := by decide +kernel
theorem dX8_useUp_5 : decode cX8_useUp 5 = .ok (.putfield 22, 3) := by decide +kernel
theorem dX8_useUp_8 : decode cX8_useUp 8 = .ok (.aload_n 0, 1) := by decide +kernel
theorem dX8_useUp_9 : decode cX8_useUp 9 = .ok (.iconst 0, 1) := by decide +kernel
theorem dX8_useUp_10 : decode cX8_useUp 10 = .ok (.putfield 19, 3) := by decide +kernel
theorem dX8_useUp_13 : decode cX8_useUp 13 = .ok (.return_, 1) := by decide +kernel
theorem dX8_startReading_0 : decode cX8_startReading 0 = .ok (.aload_n 0, 1) := by decide +kernel
theorem dX8_startReading_1 : decode cX8_startReading 1 = .ok (.iconst (-1), 1) := by decide +kernel
theorem dX8_startReading_2 : decode cX8_startReading 2 = .ok (.putfield 15, 3) := by decide +kernel
theorem dX8_startReading_5 : decode cX8_startReading 5 = .ok (.aload_n 0, 1) := by decide +kernel
theorem dX8_startReading_6 : decode cX8_startReading 6 = .ok (.iconst 0, 1) := by decide +kernel
theorem dX8_startReading_7 : decode cX8_startReading 7 = .ok (.invokevirtual 25, 3) := by decide +kernel
theorem dX8_startReading_10 : decode cX8_startReading 10 = .ok (.return_, 1) := by decide +kernel
theorem dX8_isRight_0 : decode cX8_isRight 0 = .ok (.aload_n 0, 1) := by decide +kernel
theorem dX8_isRight_1 : decode cX8_isRight 1 = .ok (.getfield 15, 3) := by decide +kernel
theorem dX8_isRight_4 : decode cX8_isRight 4 = .ok (.iconst (-1), 1) := by decide +kernel
theorem dX8_isRight_5 : decode cX8_isRight 5 = .ok (.if_icmp .ne 7, 3) := by decide +kernel
theorem dX8_isRight_8 : decode cX8_isRight 8 = .ok (.iconst 1, 1) := by decide +kernel
theorem dX8_isRight_9 : decode cX8_isRight 9 = .ok (.goto 4, 3) := by decide +kernel
theorem dX8_isRight_12 : decode cX8_isRight 12 = .ok (.iconst 0, 1) := by decide +kernel
theorem dX8_isRight_13 : decode cX8_isRight 13 = .ok (.ireturn, 1) := by decide +kernel
theorem dX8_isAtEnd_0 : decode cX8_isAtEnd 0 = .ok (.aload_n 0, 1) := by decide +kernel
theorem dX8_isAtEnd_1 : decode cX8_isAtEnd 1 = .ok (.getfield 29, 3) := by decide +kernel
theorem dX8_isAtEnd_4 : decode cX8_isAtEnd 4 = .ok (.aload_n 0, 1) := by decide +kernel
theorem dX8_isAtEnd_5 : decode cX8_isAtEnd 5 = .ok (.getfield 22, 3) := by decide +kernel
theorem dX8_isAtEnd_8 : decode cX8_isAtEnd 8 = .ok (.if_icmp .lt 7, 3) := by decide +kernel
theorem dX8_isAtEnd_11 : decode cX8_isAtEnd 11 = .ok (.iconst 1, 1) := by decide +kernel
theorem dX8_isAtEnd_12 : decode cX8_isAtEnd 12 = .ok (.goto 4, 3) := by decide +kernel
theorem dX8_isAtEnd_15 : decode cX8_isAtEnd 15 = .ok (.iconst 0, 1) := by decide +kernel
theorem dX8_isAtEnd_16 : decode cX8_isAtEnd 16 = .ok (.ireturn, 1) := by decide +kernel
theorem dX8_refuse_0 : decode cX8_refuse 0 = .ok (.aload_n 0, 1) := by decide +kernel
theorem dX8_refuse_1 : decode cX8_refuse 1 = .ok (.getfield 15, 3) := by decide +kernel
theorem dX8_refuse_4 : decode cX8_refuse 4 = .ok (.iconst (-1), 1) := by decide +kernel
theorem dX8_refuse_5 : decode cX8_refuse 5 = .ok (.if_icmp .ne 11, 3) := by decide +kernel
theorem dX8_refuse_8 : decode cX8_refuse 8 = .ok (.aload_n 0, 1) := by decide +kernel
theorem dX8_refuse_9 : decode cX8_refuse 9 = .ok (.aload_n 0, 1) := by decide +kernel
theorem dX8_refuse_10 : decode cX8_refuse 10 = .ok (.getfield 29, 3) := by decide +kernel
theorem dX8_refuse_13 : decode cX8_refuse 13 = .ok (.putfield 15, 3) := by decide +kernel
theorem dX8_refuse_16 : decode cX8_refuse 16 = .ok (.return_, 1) := by decide +kernel
theorem dX8_needEnd_0 : decode cX8_needEnd 0 = .ok (.aload_n 0, 1) := by decide +kernel
theorem dX8_needEnd_1 : decode cX8_needEnd 1 = .ok (.invokevirtual 32, 3) := by decide +kernel
theorem dX8_needEnd_4 : decode cX8_needEnd 4 = .ok (.ifCond .ne 7, 3) := by decide +kernel
theorem dX8_needEnd_7 : decode cX8_needEnd 7 = .ok (.aload_n 0, 1) := by decide +kernel
theorem dX8_needEnd_8 : decode cX8_needEnd 8 = .ok (.invokevirtual 36, 3) := by decide +kernel
theorem dX8_needEnd_11 : decode cX8_needEnd 11 = .ok (.return_, 1) := by decide +kernel
theorem dX8_takeSign_0 : decode cX8_takeSign 0 = .ok (.aload_n 0, 1) := by decide +kernel
theorem dX8_takeSign_1 : decode cX8_takeSign 1 = .ok (.getfield 15, 3) := by decide +kernel
theorem dX8_takeSign_4 : decode cX8_takeSign 4 = .ok (.iconst (-1), 1) := by decide +kernel
theorem dX8_takeSign_5 : decode cX8_takeSign 5 = .ok (.if_icmp .ne 15, 3) := by decide +kernel
theorem dX8_takeSign_8 : decode cX8_takeSign 8 = .ok (.aload_n 0, 1) := by decide +kernel
theorem dX8_takeSign_9 : decode cX8_takeSign 9 = .ok (.aload_n 0, 1) := by decide +kernel
theorem dX8_takeSign_10 : decode cX8_takeSign 10 = .ok (.getfield 29, 3) := by decide +kernel
theorem dX8_takeSign_13 : decode cX8_takeSign 13 = .ok (.invokevirtual 39, 3) := by decide +kernel
theorem dX8_takeSign_16 : decode cX8_takeSign 16 = .ok (.iload_n 1, 1) := by decide +kernel
theorem dX8_takeSign_17 : decode cX8_takeSign 17 = .ok (.if_icmp .eq 5, 3) := by decide +kernel
theorem dX8_takeSign_20 : decode cX8_takeSign 20 = .ok (.iconst 0, 1) := by decide +kernel
theorem dX8_takeSign_21 : decode cX8_takeSign 21 = .ok (.ireturn, 1) := by decide +kernel
theorem dX8_takeSign_22 : decode cX8_takeSign 22 = .ok (.aload_n 0, 1) := by decide +kernel
theorem dX8_takeSign_23 : decode cX8_takeSign 23 = .ok (.aload_n 0, 1) := by decide +kernel
theorem dX8_takeSign_24 : decode cX8_takeSign 24 = .ok (.getfield 29, 3) := by decide +kernel
theorem dX8_takeSign_27 : decode cX8_takeSign 27 = .ok (.iconst 1, 1) := by decide +kernel
theorem dX8_takeSign_28 : decode cX8_takeSign 28 = .ok (.iadd, 1) := by decide +kernel
theorem dX8_takeSign_29 : decode cX8_takeSign 29 = .ok (.invokevirtual 25, 3) := by decide +kernel
theorem dX8_takeSign_32 : decode cX8_takeSign 32 = .ok (.iconst 1, 1) := by decide +kernel
theorem dX8_takeSign_33 : decode cX8_takeSign 33 = .ok (.ireturn, 1) := by decide +kernel
theorem dX8_takeWord_0 : decode cX8_takeWord 0 = .ok (.aload_n 0, 1) := by decide +kernel
theorem dX8_takeWord_1 : decode cX8_takeWord 1 = .ok (.getfield 15, 3) := by decide +kernel
theorem dX8_takeWord_4 : decode cX8_takeWord 4 = .ok (.iconst (-1), 1) := by decide +kernel
theorem dX8_takeWord_5 : decode cX8_takeWord 5 = .ok (.if_icmp .eq 5, 3) := by decide +kernel
theorem dX8_takeWord_8 : decode cX8_takeWord 8 = .ok (.iconst 0, 1) := by decide +kernel
theorem dX8_takeWord_9 : decode cX8_takeWord 9 = .ok (.ireturn, 1) := by decide +kernel
theorem dX8_takeWord_10 : decode cX8_takeWord 10 = .ok (.iconst 0, 1) := by decide +kernel
theorem dX8_takeWord_11 : decode cX8_takeWord 11 = .ok (.istore_n 2, 1) := by decide +kernel
theorem dX8_takeWord_12 : decode cX8_takeWord 12 = .ok (.iload_n 2, 1) := by decide +kernel
theorem dX8_takeWord_13 : decode cX8_takeWord 13 = .ok (.aload_n 1, 1) := by decide +kernel
theorem dX8_takeWord_14 : decode cX8_takeWord 14 = .ok (.invokevirtual 43, 3) := by decide +kernel
theorem dX8_takeWord_17 : decode cX8_takeWord 17 = .ok (.if_icmp .ge 29, 3) := by decide +kernel
theorem dX8_takeWord_20 : decode cX8_takeWord 20 = .ok (.aload_n 0, 1) := by decide +kernel
theorem dX8_takeWord_21 : decode cX8_takeWord 21 = .ok (.aload_n 0, 1) := by decide +kernel
theorem dX8_takeWord_22 : decode cX8_takeWord 22 = .ok (.getfield 29, 3) := by decide +kernel
theorem dX8_takeWord_25 : decode cX8_takeWord 25 = .ok (.iload_n 2, 1) := by decide +kernel
theorem dX8_takeWord_26 : decode cX8_takeWord 26 = .ok (.iadd, 1) := by decide +kernel
theorem dX8_takeWord_27 : decode cX8_takeWord 27 = .ok (.invokevirtual 39, 3) := by decide +kernel
theorem dX8_takeWord_30 : decode cX8_takeWord 30 = .ok (.aload_n 1, 1) := by decide +kernel
theorem dX8_takeWord_31 : decode cX8_takeWord 31 = .ok (.iload_n 2, 1) := by decide +kernel
theorem dX8_takeWord_32 : decode cX8_takeWord 32 = .ok (.invokevirtual 48, 3) := by decide +kernel
theorem dX8_takeWord_35 : decode cX8_takeWord 35 = .ok (.if_icmp .eq 5, 3) := by decide +kernel
theorem dX8_takeWord_38 : decode cX8_takeWord 38 = .ok (.iconst 0, 1) := by decide +kernel
theorem dX8_takeWord_39 : decode cX8_takeWord 39 = .ok (.ireturn, 1) := by decide +kernel
theorem dX8_takeWord_40 : decode cX8_takeWord 40 = .ok (.iinc 2 1, 3) := by decide +kernel
theorem dX8_takeWord_43 : decode cX8_takeWord 43 = .ok (.goto (-31), 3) := by decide +kernel
theorem dX8_takeWord_46 : decode cX8_takeWord 46 = .ok (.aload_n 0, 1) := by decide +kernel
theorem dX8_takeWord_47 : decode cX8_takeWord 47 = .ok (.aload_n 0, 1) := by decide +kernel
theorem dX8_takeWord_48 : decode cX8_takeWord 48 = .ok (.getfield 29, 3) := by decide +kernel
theorem dX8_takeWord_51 : decode cX8_takeWord 51 = .ok (.aload_n 1, 1) := by decide +kernel
theorem dX8_takeWord_52 : decode cX8_takeWord 52 = .ok (.invokevirtual 43, 3) := by decide +kernel
theorem dX8_takeWord_55 : decode cX8_takeWord 55 = .ok (.iadd, 1) := by decide +kernel
theorem dX8_takeWord_56 : decode cX8_takeWord 56 = .ok (.invokevirtual 39, 3) := by decide +kernel
theorem dX8_takeWord_59 : decode cX8_takeWord 59 = .ok (.istore_n 2, 1) := by decide +kernel
theorem dX8_takeWord_60 : decode cX8_takeWord 60 = .ok (.iload_n 2, 1) := by decide +kernel
theorem dX8_takeWord_61 : decode cX8_takeWord 61 = .ok (.bipush 97, 2) := by decide +kernel
theorem dX8_takeWord_63 : decode cX8_takeWord 63 = .ok (.if_icmp .lt 11, 3) := by decide +kernel
theorem dX8_takeWord_66 : decode cX8_takeWord 66 = .ok (.iload_n 2, 1) := by decide +kernel
theorem dX8_takeWord_67 : decode cX8_takeWord 67 = .ok (.bipush 122, 2) := by decide +kernel
theorem dX8_takeWord_69 : decode cX8_takeWord 69 = .ok (.if_icmp .gt 5, 3) := by decide +kernel
theorem dX8_takeWord_72 : decode cX8_takeWord 72 = .ok (.iconst 0, 1) := by decide +kernel
theorem dX8_takeWord_73 : decode cX8_takeWord 73 = .ok (.ireturn, 1) := by decide +kernel
theorem dX8_takeWord_74 : decode cX8_takeWord 74 = .ok (.aload_n 0, 1) := by decide +kernel
theorem dX8_takeWord_75 : decode cX8_takeWord 75 = .ok (.aload_n 0, 1) := by decide +kernel
theorem dX8_takeWord_76 : decode cX8_takeWord 76 = .ok (.getfield 29, 3) := by decide +kernel
theorem dX8_takeWord_79 : decode cX8_takeWord 79 = .ok (.aload_n 1, 1) := by decide +kernel
theorem dX8_takeWord_80 : decode cX8_takeWord 80 = .ok (.invokevirtual 43, 3) := by decide +kernel
theorem dX8_takeWord_83 : decode cX8_takeWord 83 = .ok (.iadd, 1) := by decide +kernel
theorem dX8_takeWord_84 : decode cX8_takeWord 84 = .ok (.invokevirtual 25, 3) := by decide +kernel
theorem dX8_takeWord_87 : decode cX8_takeWord 87 = .ok (.iconst 1, 1) := by decide +kernel
theorem dX8_takeWord_88 : decode cX8_takeWord 88 = .ok (.ireturn, 1) := by decide +kernel
theorem dX8_number_0 : decode cX8_number 0 = .ok (.iconst 0, 1) := by decide +kernel
theorem dX8_number_1 : decode cX8_number 1 = .ok (.istore_n 3, 1) := by decide +kernel
theorem dX8_number_2 : decode cX8_number 2 = .ok (.iconst 0, 1) := by decide +kernel
theorem dX8_number_3 : decode cX8_number 3 = .ok (.istore 4, 2) := by decide +kernel
theorem dX8_number_5 : decode cX8_number 5 = .ok (.aload_n 0, 1) := by decide +kernel
theorem dX8_number_6 : decode cX8_number 6 = .ok (.aload_n 0, 1) := by decide +kernel
theorem dX8_number_7 : decode cX8_number 7 = .ok (.getfield 29, 3) := by decide +kernel
theorem dX8_number_10 : decode cX8_number 10 = .ok (.invokevirtual 39, 3) := by decide +kernel
theorem dX8_number_13 : decode cX8_number 13 = .ok (.istore 5, 2) := by decide +kernel
theorem dX8_number_15 : decode cX8_number 15 = .ok (.iload 4, 2) := by decide +kernel
theorem dX8_number_17 : decode cX8_number 17 = .ok (.iconst 3, 1) := by decide +kernel
theorem dX8_number_18 : decode cX8_number 18 = .ok (.if_icmp .gt 47, 3) := by decide +kernel
theorem dX8_number_21 : decode cX8_number 21 = .ok (.iload 5, 2) := by decide +kernel
theorem dX8_number_23 : decode cX8_number 23 = .ok (.bipush 48, 2) := by decide +kernel
theorem dX8_number_25 : decode cX8_number 25 = .ok (.if_icmp .lt 40, 3) := by decide +kernel
theorem dX8_number_28 : decode cX8_number 28 = .ok (.iload 5, 2) := by decide +kernel
theorem dX8_number_30 : decode cX8_number 30 = .ok (.bipush 57, 2) := by decide +kernel
theorem dX8_number_32 : decode cX8_number 32 = .ok (.if_icmp .gt 33, 3) := by decide +kernel
theorem dX8_number_35 : decode cX8_number 35 = .ok (.iload_n 3, 1) := by decide +kernel
theorem dX8_number_36 : decode cX8_number 36 = .ok (.bipush 10, 2) := by decide +kernel
theorem dX8_number_38 : decode cX8_number 38 = .ok (.imul, 1) := by decide +kernel
theorem dX8_number_39 : decode cX8_number 39 = .ok (.iload 5, 2) := by decide +kernel
theorem dX8_number_41 : decode cX8_number 41 = .ok (.iadd, 1) := by decide +kernel
theorem dX8_number_42 : decode cX8_number 42 = .ok (.bipush 48, 2) := by decide +kernel
theorem dX8_number_44 : decode cX8_number 44 = .ok (.isub, 1) := by decide +kernel
theorem dX8_number_45 : decode cX8_number 45 = .ok (.istore_n 3, 1) := by decide +kernel
theorem dX8_number_46 : decode cX8_number 46 = .ok (.iinc 4 1, 3) := by decide +kernel
theorem dX8_number_49 : decode cX8_number 49 = .ok (.aload_n 0, 1) := by decide +kernel
theorem dX8_number_50 : decode cX8_number 50 = .ok (.aload_n 0, 1) := by decide +kernel
theorem dX8_number_51 : decode cX8_number 51 = .ok (.getfield 29, 3) := by decide +kernel
theorem dX8_number_54 : decode cX8_number 54 = .ok (.iload 4, 2) := by decide +kernel
theorem dX8_number_56 : decode cX8_number 56 = .ok (.iadd, 1) := by decide +kernel
theorem dX8_number_57 : decode cX8_number 57 = .ok (.invokevirtual 39, 3) := by decide +kernel
theorem dX8_number_60 : decode cX8_number 60 = .ok (.istore 5, 2) := by decide +kernel
theorem dX8_number_62 : decode cX8_number 62 = .ok (.goto (-47), 3) := by decide +kernel
theorem dX8_number_65 : decode cX8_number 65 = .ok (.iload 4, 2) := by decide +kernel
theorem dX8_number_67 : decode cX8_number 67 = .ok (.iconst 1, 1) := by decide +kernel
theorem dX8_number_68 : decode cX8_number 68 = .ok (.if_icmp .lt 23, 3) := by decide +kernel
theorem dX8_number_71 : decode cX8_number 71 = .ok (.iload 4, 2) := by decide +kernel
theorem dX8_number_73 : decode cX8_number 73 = .ok (.iconst 3, 1) := by decide +kernel
theorem dX8_number_74 : decode cX8_number 74 = .ok (.if_icmp .gt 17, 3) := by decide +kernel
theorem dX8_number_77 : decode cX8_number 77 = .ok (.iload_n 3, 1) := by decide +kernel
theorem dX8_number_78 : decode cX8_number 78 = .ok (.iload_n 1, 1) := by decide +kernel
theorem dX8_number_79 : decode cX8_number 79 = .ok (.if_icmp .lt 12, 3) := by decide +kernel
theorem dX8_number_82 : decode cX8_number 82 = .ok (.iload_n 3, 1) := by decide +kernel
theorem dX8_number_83 : decode cX8_number 83 = .ok (.iload_n 2, 1) := by decide +kernel
theorem dX8_number_84 : decode cX8_number 84 = .ok (.if_icmp .gt 7, 3) := by decide +kernel
theorem dX8_number_87 : decode cX8_number 87 = .ok (.iconst 1, 1) := by decide +kernel
theorem dX8_number_88 : decode cX8_number 88 = .ok (.goto 4, 3) := by decide +kernel
theorem dX8_number_91 : decode cX8_number 91 = .ok (.iconst 0, 1) := by decide +kernel
theorem dX8_number_92 : decode cX8_number 92 = .ok (.istore 6, 2) := by decide +kernel
theorem dX8_number_94 : decode cX8_number 94 = .ok (.aload_n 0, 1) := by decide +kernel
theorem dX8_number_95 : decode cX8_number 95 = .ok (.getfield 15, 3) := by decide +kernel
theorem dX8_number_98 : decode cX8_number 98 = .ok (.iconst (-1), 1) := by decide +kernel
theorem dX8_number_99 : decode cX8_number 99 = .ok (.if_icmp .ne 8, 3) := by decide +kernel
theorem dX8_number_102 : decode cX8_number 102 = .ok (.iload 6, 2) := by decide +kernel
theorem dX8_number_104 : decode cX8_number 104 = .ok (.ifCond .ne 9, 3) := by decide +kernel
theorem dX8_number_107 : decode cX8_number 107 = .ok (.aload_n 0, 1) := by decide +kernel
theorem dX8_number_108 : decode cX8_number 108 = .ok (.invokevirtual 36, 3) := by decide +kernel
theorem dX8_number_111 : decode cX8_number 111 = .ok (.iconst (-1), 1) := by decide +kernel
theorem dX8_number_112 : decode cX8_number 112 = .ok (.ireturn, 1) := by decide +kernel
theorem dX8_number_113 : decode cX8_number 113 = .ok (.aload_n 0, 1) := by decide +kernel
theorem dX8_number_114 : decode cX8_number 114 = .ok (.aload_n 0, 1) := by decide +kernel
theorem dX8_number_115 : decode cX8_number 115 = .ok (.getfield 29, 3) := by decide +kernel
theorem dX8_number_118 : decode cX8_number 118 = .ok (.iload 4, 2) := by decide +kernel
theorem dX8_number_120 : decode cX8_number 120 = .ok (.iadd, 1) := by decide +kernel
theorem dX8_number_121 : decode cX8_number 121 = .ok (.invokevirtual 25, 3) := by decide +kernel
theorem dX8_number_124 : decode cX8_number 124 = .ok (.iload_n 3, 1) := by decide +kernel
theorem dX8_number_125 : decode cX8_number 125 = .ok (.ireturn, 1) := by decide +kernel
theorem dX8_numberBehind_0 : decode cX8_numberBehind 0 = .ok (.aload_n 0, 1) := by decide +kernel
theorem dX8_numberBehind_1 : decode cX8_numberBehind 1 = .ok (.aload_n 1, 1) := by decide +kernel
theorem dX8_numberBehind_2 : decode cX8_numberBehind 2 = .ok (.invokevirtual 52, 3) := by decide +kernel
theorem dX8_numberBehind_5 : decode cX8_numberBehind 5 = .ok (.ifCond .ne 7, 3) := by decide +kernel
theorem dX8_numberBehind_8 : decode cX8_numberBehind 8 = .ok (.aload_n 0, 1) := by decide +kernel
theorem dX8_numberBehind_9 : decode cX8_numberBehind 9 = .ok (.invokevirtual 36, 3) := by decide +kernel
theorem dX8_numberBehind_12 : decode cX8_numberBehind 12 = .ok (.aload_n 0, 1) := by decide +kernel
theorem dX8_numberBehind_13 : decode cX8_numberBehind 13 = .ok (.iload_n 2, 1) := by decide +kernel
theorem dX8_numberBehind_14 : decode cX8_numberBehind 14 = .ok (.iload_n 3, 1) := by decide +kernel
theorem dX8_numberBehind_15 : decode cX8_numberBehind 15 = .ok (.invokevirtual 56, 3) := by decide +kernel
theorem dX8_numberBehind_18 : decode cX8_numberBehind 18 = .ok (.ireturn, 1) := by decide +kernel
theorem dX8_moveTo_0 : decode cX8_moveTo 0 = .ok (.aload_n 0, 1) := by decide +kernel
theorem dX8_moveTo_1 : decode cX8_moveTo 1 = .ok (.iload_n 1, 1) := by decide +kernel
theorem dX8_moveTo_2 : decode cX8_moveTo 2 = .ok (.putfield 29, 3) := by decide +kernel
theorem dX8_moveTo_5 : decode cX8_moveTo 5 = .ok (.aload_n 0, 1) := by decide +kernel
theorem dX8_moveTo_6 : decode cX8_moveTo 6 = .ok (.getfield 29, 3) := by decide +kernel
theorem dX8_moveTo_9 : decode cX8_moveTo 9 = .ok (.aload_n 0, 1) := by decide +kernel
theorem dX8_moveTo_10 : decode cX8_moveTo 10 = .ok (.getfield 22, 3) := by decide +kernel
theorem dX8_moveTo_13 : decode cX8_moveTo 13 = .ok (.if_icmp .ge 40, 3) := by decide +kernel
theorem dX8_moveTo_16 : decode cX8_moveTo 16 = .ok (.aload_n 0, 1) := by decide +kernel
theorem dX8_moveTo_17 : decode cX8_moveTo 17 = .ok (.getfield 29, 3) := by decide +kernel
theorem dX8_moveTo_20 : decode cX8_moveTo 20 = .ok (.sipush 400, 3) := by decide +kernel
theorem dX8_moveTo_23 : decode cX8_moveTo 23 = .ok (.if_icmp .ge 30, 3) := by decide +kernel
theorem dX8_moveTo_26 : decode cX8_moveTo 26 = .ok (.aload_n 0, 1) := by decide +kernel
theorem dX8_moveTo_27 : decode cX8_moveTo 27 = .ok (.getfield 11, 3) := by decide +kernel
theorem dX8_moveTo_30 : decode cX8_moveTo 30 = .ok (.aload_n 0, 1) := by decide +kernel
theorem dX8_moveTo_31 : decode cX8_moveTo 31 = .ok (.getfield 29, 3) := by decide +kernel
theorem dX8_moveTo_34 : decode cX8_moveTo 34 = .ok (.baload, 1) := by decide +kernel
theorem dX8_moveTo_35 : decode cX8_moveTo 35 = .ok (.bipush 32, 2) := by decide +kernel
theorem dX8_moveTo_37 : decode cX8_moveTo 37 = .ok (.if_icmp .ne 16, 3) := by decide +kernel
theorem dX8_moveTo_40 : decode cX8_moveTo 40 = .ok (.aload_n 0, 1) := by decide +kernel
theorem dX8_moveTo_41 : decode cX8_moveTo 41 = .ok (.dup, 1) := by decide +kernel
theorem dX8_moveTo_42 : decode cX8_moveTo 42 = .ok (.getfield 29, 3) := by decide +kernel
theorem dX8_moveTo_45 : decode cX8_moveTo 45 = .ok (.iconst 1, 1) := by decide +kernel
theorem dX8_moveTo_46 : decode cX8_moveTo 46 = .ok (.iadd, 1) := by decide +kernel
theorem dX8_moveTo_47 : decode cX8_moveTo 47 = .ok (.putfield 29, 3) := by decide +kernel
theorem dX8_moveTo_50 : decode cX8_moveTo 50 = .ok (.goto (-45), 3) := by decide +kernel
theorem dX8_moveTo_53 : decode cX8_moveTo 53 = .ok (.return_, 1) := by decide +kernel
theorem dX8_byteAt_0 : decode cX8_byteAt 0 = .ok (.iload_n 1, 1) := by decide +kernel
theorem dX8_byteAt_1 : decode cX8_byteAt 1 = .ok (.ifCond .lt 18, 3) := by decide +kernel
theorem dX8_byteAt_4 : decode cX8_byteAt 4 = .ok (.iload_n 1, 1) := by decide +kernel
theorem dX8_byteAt_5 : decode cX8_byteAt 5 = .ok (.aload_n 0, 1) := by decide +kernel
theorem dX8_byteAt_6 : decode cX8_byteAt 6 = .ok (.getfield 22, 3) := by decide +kernel
theorem dX8_byteAt_9 : decode cX8_byteAt 9 = .ok (.if_icmp .ge 10, 3) := by decide +kernel
theorem dX8_byteAt_12 : decode cX8_byteAt 12 = .ok (.iload_n 1, 1) := by decide +kernel
theorem dX8_byteAt_13 : decode cX8_byteAt 13 = .ok (.sipush 400, 3) := by decide +kernel
theorem dX8_byteAt_16 : decode cX8_byteAt 16 = .ok (.if_icmp .lt 7, 3) := by decide +kernel
theorem dX8_byteAt_19 : decode cX8_byteAt 19 = .ok (.iconst (-1), 1) := by decide +kernel
theorem dX8_byteAt_20 : decode cX8_byteAt 20 = .ok (.goto 13, 3) := by decide +kernel
theorem dX8_byteAt_23 : decode cX8_byteAt 23 = .ok (.aload_n 0, 1) := by decide +kernel
theorem dX8_byteAt_24 : decode cX8_byteAt 24 = .ok (.getfield 11, 3) := by decide +kernel
theorem dX8_byteAt_27 : decode cX8_byteAt 27 = .ok (.iload_n 1, 1) := by decide +kernel
theorem dX8_byteAt_28 : decode cX8_byteAt 28 = .ok (.baload, 1) := by decide +kernel
theorem dX8_byteAt_29 : decode cX8_byteAt 29 = .ok (.sipush 255, 3) := by decide +kernel
theorem dX8_byteAt_32 : decode cX8_byteAt 32 = .ok (.iand, 1) := by decide +kernel
theorem dX8_byteAt_33 : decode cX8_byteAt 33 = .ok (.ireturn, 1) := by decide +kernel
theorem dX9_init_0 : decode cX9_init 0 = .ok (.aload_n 0, 1) := by decide +kernel
theorem dX9_init_1 : decode cX9_init 1 = .ok (.invokespecial 5, 3) := by decide +kernel
theorem dX9_init_4 : decode cX9_init 4 = .ok (.return_, 1) := by decide +kernel
theorem dX9_startAt_0 : decode cX9_startAt 0 = .ok (.aload_n 0, 1) := by decide +kernel
theorem dX9_startAt_1 : decode cX9_startAt 1 = .ok (.iconst 0, 1) := by decide +kernel
theorem dX9_startAt_2 : decode cX9_startAt 2 = .ok (.putfield 11, 3) := by decide +kernel
theorem dX9_startAt_5 : decode cX9_startAt 5 = .ok (.aload_n 0, 1) := by decide +kernel
theorem dX9_startAt_6 : decode cX9_startAt 6 = .ok (.iload_n 1, 1) := by decide +kernel
theorem dX9_startAt_7 : decode cX9_startAt 7 = .ok (.putfield 15, 3) := by decide +kernel
theorem dX9_startAt_10 : decode cX9_startAt 10 = .ok (.aload_n 0, 1) := by decide +kernel
theorem dX9_startAt_11 : decode cX9_startAt 11 = .ok (.iconst 0, 1) := by decide +kernel
theorem dX9_startAt_12 : decode cX9_startAt 12 = .ok (.putfield 18, 3) := by decide +kernel
theorem dX9_startAt_15 : decode cX9_startAt 15 = .ok (.aload_n 0, 1) := by decide +kernel
theorem dX9_startAt_16 : decode cX9_startAt 16 = .ok (.iconst 0, 1) := by decide +kernel
theorem dX9_startAt_17 : decode cX9_startAt 17 = .ok (.putfield 21, 3) := by decide +kernel
theorem dX9_startAt_20 : decode cX9_startAt 20 = .ok (.aload_n 0, 1) := by decide +kernel
theorem dX9_startAt_21 : decode cX9_startAt 21 = .ok (.iconst 0, 1) := by decide +kernel
theorem dX9_startAt_22 : decode cX9_startAt 22 = .ok (.putfield 24, 3) := by decide +kernel
theorem dX9_startAt_25 : decode cX9_startAt 25 = .ok (.aload_n 0, 1) := by decide +kernel
theorem dX9_startAt_26 : decode cX9_startAt 26 = .ok (.iconst 0, 1) := by decide +kernel
theorem dX9_startAt_27 : decode cX9_startAt 27 = .ok (.putfield 27, 3) := by decide +kernel
theorem dX9_startAt_30 : decode cX9_startAt 30 = .ok (.aload_n 0, 1) := by decide +kernel
theorem dX9_startAt_31 : decode cX9_startAt 31 = .ok (.iconst (-1), 1) := by decide +kernel
theorem dX9_startAt_32 : decode cX9_startAt 32 = .ok (.putfield 30, 3) := by decide +kernel
theorem dX9_startAt_35 : decode cX9_startAt 35 = .ok (.aload_n 0, 1) := by decide +kernel
theorem dX9_startAt_36 : decode cX9_startAt 36 = .ok (.iconst 0, 1) := by decide +kernel
theorem dX9_startAt_37 : decode cX9_startAt 37 = .ok (.putfield 33, 3) := by decide +kernel
theorem dX9_startAt_40 : decode cX9_startAt 40 = .ok (.return_, 1) := by decide +kernel
theorem dX9_copyFrom_0 : decode cX9_copyFrom 0 = .ok (.aload_n 0, 1) := by decide +kernel
theorem dX9_copyFrom_1 : decode cX9_copyFrom 1 = .ok (.aload_n 1, 1) := by decide +kernel
theorem dX9_copyFrom_2 : decode cX9_copyFrom 2 = .ok (.getfield 11, 3) := by decide +kernel
theorem dX9_copyFrom_5 : decode cX9_copyFrom 5 = .ok (.putfield 11, 3) := by decide +kernel
theorem dX9_copyFrom_8 : decode cX9_copyFrom 8 = .ok (.aload_n 0, 1) := by decide +kernel
theorem dX9_copyFrom_9 : decode cX9_copyFrom 9 = .ok (.aload_n 1, 1) := by decide +kernel
theorem dX9_copyFrom_10 : decode cX9_copyFrom 10 = .ok (.getfield 15, 3) := by decide +kernel
theorem dX9_copyFrom_13 : decode cX9_copyFrom 13 = .ok (.putfield 15, 3) := by decide +kernel
theorem dX9_copyFrom_16 : decode cX9_copyFrom 16 = .ok (.aload_n 0, 1) := by decide +kernel
theorem dX9_copyFrom_17 : decode cX9_copyFrom 17 = .ok (.aload_n 1, 1) := by decide +kernel
theorem dX9_copyFrom_18 : decode cX9_copyFrom 18 = .ok (.getfield 18, 3) := by decide +kernel
theorem dX9_copyFrom_21 : decode cX9_copyFrom 21 = .ok (.putfield 18, 3) := by decide +kernel
theorem dX9_copyFrom_24 : decode cX9_copyFrom 24 = .ok (.aload_n 0, 1) := by decide +kernel
theorem dX9_copyFrom_25 : decode cX9_copyFrom 25 = .ok (.aload_n 1, 1) := by decide +kernel
theorem dX9_copyFrom_26 : decode cX9_copyFrom 26 = .ok (.getfield 21, 3) := by decide +kernel
theorem dX9_copyFrom_29 : decode cX9_copyFrom 29 = .ok (.putfield 21, 3) := by decide +kernel
theorem dX9_copyFrom_32 : decode cX9_copyFrom 32 = .ok (.aload_n 0, 1) := by decide +kernel
theorem dX9_copyFrom_33 : decode cX9_copyFrom 33 = .ok (.aload_n 1, 1) := by decide +kernel
theorem dX9_copyFrom_34 : decode cX9_copyFrom 34 = .ok (.getfield 24, 3) := by decide +kernel
theorem dX9_copyFrom_37 : decode cX9_copyFrom 37 = .ok (.putfield 24, 3) := by decide +kernel
theorem dX9_copyFrom_40 : decode cX9_copyFrom 40 = .ok (.aload_n 0, 1) := by decide +kernel
theorem dX9_copyFrom_41 : decode cX9_copyFrom 41 = .ok (.aload_n 1, 1) := by decide +kernel
theorem dX9_copyFrom_42 : decode cX9_copyFrom 42 = .ok (.getfield 27, 3) := by decide +kernel
theorem dX9_copyFrom_45 : decode cX9_copyFrom 45 = .ok (.putfield 27, 3) := by decide +kernel
theorem dX9_copyFrom_48 : decode cX9_copyFrom 48 = .ok (.aload_n 0, 1) := by decide +kernel
theorem dX9_copyFrom_49 : decode cX9_copyFrom 49 = .ok (.aload_n 1, 1) := by decide +kernel
theorem dX9_copyFrom_50 : decode cX9_copyFrom 50 = .ok (.getfield 30, 3) := by decide +kernel
theorem dX9_copyFrom_53 : decode cX9_copyFrom 53 = .ok (.putfield 30, 3) := by decide +kernel
theorem dX9_copyFrom_56 : decode cX9_copyFrom 56 = .ok (.aload_n 0, 1) := by decide +kernel
theorem dX9_copyFrom_57 : decode cX9_copyFrom 57 = .ok (.aload_n 1, 1) := by decide +kernel
theorem dX9_copyFrom_58 : decode cX9_copyFrom 58 = .ok (.getfield 33, 3) := by decide +kernel
theorem dX9_copyFrom_61 : decode cX9_copyFrom 61 = .ok (.putfield 33, 3) := by decide +kernel
theorem dX9_copyFrom_64 : decode cX9_copyFrom 64 = .ok (.return_, 1) := by decide +kernel
theorem dX9_addCause_0 : decode cX9_addCause 0 = .ok (.aload_n 0, 1) := by decide +kernel
theorem dX9_addCause_1 : decode cX9_addCause 1 = .ok (.aload_n 0, 1) := by decide +kernel
theorem dX9_addCause_2 : decode cX9_addCause 2 = .ok (.getfield 24, 3) := by decide +kernel
theorem dX9_addCause_5 : decode cX9_addCause 5 = .ok (.iconst 3, 1) := by decide +kernel
theorem dX9_addCause_6 : decode cX9_addCause 6 = .ok (.ishl, 1) := by decide +kernel
theorem dX9_addCause_7 : decode cX9_addCause 7 = .ok (.iload_n 1, 1) := by decide +kernel
theorem dX9_addCause_8 : decode cX9_addCause 8 = .ok (.ior, 1) := by decide +kernel
theorem dX9_addCause_9 : decode cX9_addCause 9 = .ok (.ldc 36, 2) := by decide +kernel
theorem dX9_addCause_11 : decode cX9_addCause 11 = .ok (.iand, 1) := by decide +kernel
theorem dX9_addCause_12 : decode cX9_addCause 12 = .ok (.putfield 24, 3) := by decide +kernel
theorem dX9_addCause_15 : decode cX9_addCause 15 = .ok (.aload_n 0, 1) := by decide +kernel
theorem dX9_addCause_16 : decode cX9_addCause 16 = .ok (.aload_n 0, 1) := by decide +kernel
theorem dX9_addCause_17 : decode cX9_addCause 17 = .ok (.getfield 21, 3) := by decide +kernel
theorem dX9_addCause_20 : decode cX9_addCause 20 = .ok (.iconst 1, 1) := by decide +kernel
theorem dX9_addCause_21 : decode cX9_addCause 21 = .ok (.iadd, 1) := by decide +kernel
theorem dX9_addCause_22 : decode cX9_addCause 22 = .ok (.bipush 9, 2) := by decide +kernel
theorem dX9_addCause_24 : decode cX9_addCause 24 = .ok (.invokestatic 37, 3) := by decide +kernel
theorem dX9_addCause_27 : decode cX9_addCause 27 = .ok (.putfield 21, 3) := by decide +kernel
theorem dX9_addCause_30 : decode cX9_addCause 30 = .ok (.return_, 1) := by decide +kernel
theorem dX9_causeAt_0 : decode cX9_causeAt 0 = .ok (.iload_n 1, 1) := by decide +kernel
theorem dX9_causeAt_1 : decode cX9_causeAt 1 = .ok (.ifCond .lt 11, 3) := by decide +kernel
theorem dX9_causeAt_4 : decode cX9_causeAt 4 = .ok (.iload_n 1, 1) := by decide +kernel
theorem dX9_causeAt_5 : decode cX9_causeAt 5 = .ok (.aload_n 0, 1) := by decide +kernel
theorem dX9_causeAt_6 : decode cX9_causeAt 6 = .ok (.getfield 21, 3) := by decide +kernel
theorem dX9_causeAt_9 : decode cX9_causeAt 9 = .ok (.if_icmp .lt 7, 3) := by decide +kernel
theorem dX9_causeAt_12 : decode cX9_causeAt 12 = .ok (.iconst (-1), 1) := by decide +kernel
theorem dX9_causeAt_13 : decode cX9_causeAt 13 = .ok (.goto 14, 3) := by decide +kernel
theorem dX9_causeAt_16 : decode cX9_causeAt 16 = .ok (.aload_n 0, 1) := by decide +kernel
theorem dX9_causeAt_17 : decode cX9_causeAt 17 = .ok (.getfield 24, 3) := by decide +kernel
theorem dX9_causeAt_20 : decode cX9_causeAt 20 = .ok (.iload_n 1, 1) := by decide +kernel
theorem dX9_causeAt_21 : decode cX9_causeAt 21 = .ok (.iconst 3, 1) := by decide +kernel
theorem dX9_causeAt_22 : decode cX9_causeAt 22 = .ok (.imul, 1) := by decide +kernel
theorem dX9_causeAt_23 : decode cX9_causeAt 23 = .ok (.ishr, 1) := by decide +kernel
theorem dX9_causeAt_24 : decode cX9_causeAt 24 = .ok (.bipush 7, 2) := by decide +kernel
theorem dX9_causeAt_26 : decode cX9_causeAt 26 = .ok (.iand, 1) := by decide +kernel
theorem dX9_causeAt_27 : decode cX9_causeAt 27 = .ok (.ireturn, 1) := by decide +kernel
theorem dX9_causesLike_0 : decode cX9_causesLike 0 = .ok (.aload_n 0, 1) := by decide +kernel
theorem dX9_causesLike_1 : decode cX9_causesLike 1 = .ok (.getfield 21, 3) := by decide +kernel
theorem dX9_causesLike_4 : decode cX9_causesLike 4 = .ok (.aload_n 1, 1) := by decide +kernel
theorem dX9_causesLike_5 : decode cX9_causesLike 5 = .ok (.getfield 21, 3) := by decide +kernel
theorem dX9_causesLike_8 : decode cX9_causesLike 8 = .ok (.invokestatic 37, 3) := by decide +kernel
theorem dX9_causesLike_11 : decode cX9_causesLike 11 = .ok (.istore_n 2, 1) := by decide +kernel
theorem dX9_causesLike_12 : decode cX9_causesLike 12 = .ok (.iconst 0, 1) := by decide +kernel
theorem dX9_causesLike_13 : decode cX9_causesLike 13 = .ok (.istore_n 3, 1) := by decide +kernel
theorem dX9_causesLike_14 : decode cX9_causesLike 14 = .ok (.iload_n 3, 1) := by decide +kernel
theorem dX9_causesLike_15 : decode cX9_causesLike 15 = .ok (.iload_n 2, 1) := by decide +kernel
theorem dX9_causesLike_16 : decode cX9_causesLike 16 = .ok (.if_icmp .ge 24, 3) := by decide +kernel
theorem dX9_causesLike_19 : decode cX9_causesLike 19 = .ok (.aload_n 0, 1) := by decide +kernel
theorem dX9_causesLike_20 : decode cX9_causesLike 20 = .ok (.iload_n 3, 1) := by decide +kernel
theorem dX9_causesLike_21 : decode cX9_causesLike 21 = .ok (.invokevirtual 43, 3) := by decide +kernel
theorem dX9_causesLike_24 : decode cX9_causesLike 24 = .ok (.aload_n 1, 1) := by decide +kernel
theorem dX9_causesLike_25 : decode cX9_causesLike 25 = .ok (.iload_n 3, 1) := by decide +kernel
theorem dX9_causesLike_26 : decode cX9_causesLike 26 = .ok (.invokevirtual 43, 3) := by decide +kernel
theorem dX9_causesLike_29 : decode cX9_causesLike 29 = .ok (.if_icmp .eq 5, 3) := by decide +kernel
theorem dX9_causesLike_32 : decode cX9_causesLike 32 = .ok (.iload_n 3, 1) := by decide +kernel
theorem dX9_causesLike_33 : decode cX9_causesLike 33 = .ok (.ireturn, 1) := by decide +kernel
theorem dX9_causesLike_34 : decode cX9_causesLike 34 = .ok (.iinc 3 1, 3) := by decide +kernel
theorem dX9_causesLike_37 : decode cX9_causesLike 37 = .ok (.goto (-23), 3) := by decide +kernel
theorem dX9_causesLike_40 : decode cX9_causesLike 40 = .ok (.iload_n 2, 1) := by decide +kernel
theorem dX9_causesLike_41 : decode cX9_causesLike 41 = .ok (.ireturn, 1) := by decide +kernel
theorem dX10_timeOf_0 : decode cX10_timeOf 0 = .ok (.aload_n 0, 1) := by decide +kernel
theorem dX10_timeOf_1 : decode cX10_timeOf 1 = .ok (.invokestatic 9, 3) := by decide +kernel
theorem dX10_timeOf_4 : decode cX10_timeOf 4 = .ok (.aload_n 0, 1) := by decide +kernel
theorem dX10_timeOf_5 : decode cX10_timeOf 5 = .ok (.getfield 15, 3) := by decide +kernel
theorem dX10_timeOf_8 : decode cX10_timeOf 8 = .ok (.istore_n 3, 1) := by decide +kernel
theorem dX10_timeOf_9 : decode cX10_timeOf 9 = .ok (.iconst 0, 1) := by decide +kernel
theorem dX10_timeOf_10 : decode cX10_timeOf 10 = .ok (.istore 4, 2) := by decide +kernel
theorem dX10_timeOf_12 : decode cX10_timeOf 12 = .ok (.iload 4, 2) := by decide +kernel
theorem dX10_timeOf_14 : decode cX10_timeOf 14 = .ok (.ldc 21, 2) := by decide +kernel
theorem dX10_timeOf_16 : decode cX10_timeOf 16 = .ok (.if_icmp .ge 118, 3) := by decide +kernel
theorem dX10_timeOf_19 : decode cX10_timeOf 19 = .ok (.aload_n 0, 1) := by decide +kernel
theorem dX10_timeOf_20 : decode cX10_timeOf 20 = .ok (.iconst 0, 1) := by decide +kernel
theorem dX10_timeOf_21 : decode cX10_timeOf 21 = .ok (.invokestatic 22, 3) := by decide +kernel
theorem dX10_timeOf_24 : decode cX10_timeOf 24 = .ok (.ifCond .le 110, 3) := by decide +kernel
theorem dX10_timeOf_27 : decode cX10_timeOf 27 = .ok (.aload_n 0, 1) := by decide +kernel
theorem dX10_timeOf_28 : decode cX10_timeOf 28 = .ok (.getfield 15, 3) := by decide +kernel
theorem dX10_timeOf_31 : decode cX10_timeOf 31 = .ok (.iload 4, 2) := by decide +kernel
theorem dX10_timeOf_33 : decode cX10_timeOf 33 = .ok (.iadd, 1) := by decide +kernel
theorem dX10_timeOf_34 : decode cX10_timeOf 34 = .ok (.istore 5, 2) := by decide +kernel
theorem dX10_timeOf_36 : decode cX10_timeOf 36 = .ok (.aload_n 0, 1) := by decide +kernel
theorem dX10_timeOf_37 : decode cX10_timeOf 37 = .ok (.iload 5, 2) := by decide +kernel
theorem dX10_timeOf_39 : decode cX10_timeOf 39 = .ok (.invokestatic 26, 3) := by decide +kernel
theorem dX10_timeOf_42 : decode cX10_timeOf 42 = .ok (.iload_n 1, 1) := by decide +kernel
theorem dX10_timeOf_43 : decode cX10_timeOf 43 = .ok (.aload_n 0, 1) := by decide +kernel
theorem dX10_timeOf_44 : decode cX10_timeOf 44 = .ok (.iconst 1, 1) := by decide +kernel
theorem dX10_timeOf_45 : decode cX10_timeOf 45 = .ok (.invokestatic 22, 3) := by decide +kernel
theorem dX10_timeOf_48 : decode cX10_timeOf 48 = .ok (.isub, 1) := by decide +kernel
theorem dX10_timeOf_49 : decode cX10_timeOf 49 = .ok (.istore 6, 2) := by decide +kernel
theorem dX10_timeOf_51 : decode cX10_timeOf 51 = .ok (.iload 6, 2) := by decide +kernel
theorem dX10_timeOf_53 : decode cX10_timeOf 53 = .ok (.ifCond .le 75, 3) := by decide +kernel
theorem dX10_timeOf_56 : decode cX10_timeOf 56 = .ok (.aload_n 0, 1) := by decide +kernel
theorem dX10_timeOf_57 : decode cX10_timeOf 57 = .ok (.iload 5, 2) := by decide +kernel
theorem dX10_timeOf_59 : decode cX10_timeOf 59 = .ok (.invokestatic 30, 3) := by decide +kernel
theorem dX10_timeOf_62 : decode cX10_timeOf 62 = .ok (.astore 7, 2) := by decide +kernel
theorem dX10_timeOf_64 : decode cX10_timeOf 64 = .ok (.aload 7, 2) := by decide +kernel
theorem dX10_timeOf_66 : decode cX10_timeOf 66 = .ok (.ifnonnull 6, 3) := by decide +kernel
theorem dX10_timeOf_69 : decode cX10_timeOf 69 = .ok (.goto 59, 3) := by decide +kernel
theorem dX10_timeOf_72 : decode cX10_timeOf 72 = .ok (.aload 7, 2) := by decide +kernel
theorem dX10_timeOf_74 : decode cX10_timeOf 74 = .ok (.getfield 34, 3) := by decide +kernel
theorem dX10_timeOf_77 : decode cX10_timeOf 77 = .ok (.iload_n 2, 1) := by decide +kernel
theorem dX10_timeOf_78 : decode cX10_timeOf 78 = .ok (.if_icmp .ne 6, 3) := by decide +kernel
theorem dX10_timeOf_81 : decode cX10_timeOf 81 = .ok (.iload 5, 2) := by decide +kernel
theorem dX10_timeOf_83 : decode cX10_timeOf 83 = .ok (.ireturn, 1) := by decide +kernel
theorem dX10_timeOf_84 : decode cX10_timeOf 84 = .ok (.aload 7, 2) := by decide +kernel
theorem dX10_timeOf_86 : decode cX10_timeOf 86 = .ok (.getfield 39, 3) := by decide +kernel
theorem dX10_timeOf_89 : decode cX10_timeOf 89 = .ok (.iconst 1, 1) := by decide +kernel
theorem dX10_timeOf_90 : decode cX10_timeOf 90 = .ok (.putfield 43, 3) := by decide +kernel
theorem dX10_timeOf_93 : decode cX10_timeOf 93 = .ok (.aload 7, 2) := by decide +kernel
theorem dX10_timeOf_95 : decode cX10_timeOf 95 = .ok (.getfield 39, 3) := by decide +kernel
theorem dX10_timeOf_98 : decode cX10_timeOf 98 = .ok (.iload 5, 2) := by decide +kernel
theorem dX10_timeOf_100 : decode cX10_timeOf 100 = .ok (.aload 7, 2) := by decide +kernel
theorem dX10_timeOf_102 : decode cX10_timeOf 102 = .ok (.getfield 48, 3) := by decide +kernel
theorem dX10_timeOf_105 : decode cX10_timeOf 105 = .ok (.iadd, 1) := by decide +kernel
theorem dX10_timeOf_106 : decode cX10_timeOf 106 = .ok (.putfield 51, 3) := by decide +kernel
theorem dX10_timeOf_109 : decode cX10_timeOf 109 = .ok (.iload_n 3, 1) := by decide +kernel
theorem dX10_timeOf_110 : decode cX10_timeOf 110 = .ok (.aload 7, 2) := by decide +kernel
theorem dX10_timeOf_112 : decode cX10_timeOf 112 = .ok (.getfield 39, 3) := by decide +kernel
theorem dX10_timeOf_115 : decode cX10_timeOf 115 = .ok (.getfield 51, 3) := by decide +kernel
theorem dX10_timeOf_118 : decode cX10_timeOf 118 = .ok (.invokestatic 54, 3) := by decide +kernel
theorem dX10_timeOf_121 : decode cX10_timeOf 121 = .ok (.istore_n 3, 1) := by decide +kernel
theorem dX10_timeOf_122 : decode cX10_timeOf 122 = .ok (.iinc 6 (-1), 3) := by decide +kernel
theorem dX10_timeOf_125 : decode cX10_timeOf 125 = .ok (.goto (-74), 3) := by decide +kernel
theorem dX10_timeOf_128 : decode cX10_timeOf 128 = .ok (.iinc 4 1, 3) := by decide +kernel
theorem dX10_timeOf_131 : decode cX10_timeOf 131 = .ok (.goto (-119), 3) := by decide +kernel
theorem dX10_timeOf_134 : decode cX10_timeOf 134 = .ok (.iload_n 2, 1) := by decide +kernel
theorem dX10_timeOf_135 : decode cX10_timeOf 135 = .ok (.iconst (-1), 1) := by decide +kernel
theorem dX10_timeOf_136 : decode cX10_timeOf 136 = .ok (.if_icmp .ne 7, 3) := by decide +kernel
theorem dX10_timeOf_139 : decode cX10_timeOf 139 = .ok (.iload_n 3, 1) := by decide +kernel
theorem dX10_timeOf_140 : decode cX10_timeOf 140 = .ok (.goto 4, 3) := by decide +kernel
theorem dX10_timeOf_143 : decode cX10_timeOf 143 = .ok (.iconst (-1), 1) := by decide +kernel
theorem dX10_timeOf_144 : decode cX10_timeOf 144 = .ok (.ireturn, 1) := by decide +kernel
theorem dX10_prepare_0 : decode cX10_prepare 0 = .ok (.iconst 0, 1) := by decide +kernel
theorem dX10_prepare_1 : decode cX10_prepare 1 = .ok (.istore_n 1, 1) := by decide +kernel
theorem dX10_prepare_2 : decode cX10_prepare 2 = .ok (.iload_n 1, 1) := by decide +kernel
theorem dX10_prepare_3 : decode cX10_prepare 3 = .ok (.aload_n 0, 1) := by decide +kernel
theorem dX10_prepare_4 : decode cX10_prepare 4 = .ok (.getfield 60, 3) := by decide +kernel
theorem dX10_prepare_7 : decode cX10_prepare 7 = .ok (.if_icmp .ge 57, 3) := by decide +kernel
theorem dX10_prepare_10 : decode cX10_prepare 10 = .ok (.aload_n 0, 1) := by decide +kernel
theorem dX10_prepare_11 : decode cX10_prepare 11 = .ok (.getfield 63, 3) := by decide +kernel
theorem dX10_prepare_14 : decode cX10_prepare 14 = .ok (.iload_n 1, 1) := by decide +kernel
theorem dX10_prepare_15 : decode cX10_prepare 15 = .ok (.aaload, 1) := by decide +kernel
theorem dX10_prepare_16 : decode cX10_prepare 16 = .ok (.getfield 39, 3) := by decide +kernel
theorem dX10_prepare_19 : decode cX10_prepare 19 = .ok (.astore_n 2, 1) := by decide +kernel
theorem dX10_prepare_20 : decode cX10_prepare 20 = .ok (.aload_n 0, 1) := by decide +kernel
theorem dX10_prepare_21 : decode cX10_prepare 21 = .ok (.getfield 63, 3) := by decide +kernel
theorem dX10_prepare_24 : decode cX10_prepare 24 = .ok (.iload_n 1, 1) := by decide +kernel
theorem dX10_prepare_25 : decode cX10_prepare 25 = .ok (.aaload, 1) := by decide +kernel
theorem dX10_prepare_26 : decode cX10_prepare 26 = .ok (.getfield 67, 3) := by decide +kernel
theorem dX10_prepare_29 : decode cX10_prepare 29 = .ok (.ifCond .ne 8, 3) := by decide +kernel
theorem dX10_prepare_32 : decode cX10_prepare 32 = .ok (.aload_n 2, 1) := by decide +kernel
theorem dX10_prepare_33 : decode cX10_prepare 33 = .ok (.iconst 2, 1) := by decide +kernel
theorem dX10_prepare_34 : decode cX10_prepare 34 = .ok (.putfield 43, 3) := by decide +kernel
theorem dX10_prepare_37 : decode cX10_prepare 37 = .ok (.aload_n 2, 1) := by decide +kernel
theorem dX10_prepare_38 : decode cX10_prepare 38 = .ok (.getfield 43, 3) := by decide +kernel
theorem dX10_prepare_41 : decode cX10_prepare 41 = .ok (.iconst 1, 1) := by decide +kernel
theorem dX10_prepare_42 : decode cX10_prepare 42 = .ok (.if_icmp .ne 16, 3) := by decide +kernel
theorem dX10_prepare_45 : decode cX10_prepare 45 = .ok (.aload_n 2, 1) := by decide +kernel
theorem dX10_prepare_46 : decode cX10_prepare 46 = .ok (.iconst 0, 1) := by decide +kernel
theorem dX10_prepare_47 : decode cX10_prepare 47 = .ok (.putfield 43, 3) := by decide +kernel
theorem dX10_prepare_50 : decode cX10_prepare 50 = .ok (.aload_n 2, 1) := by decide +kernel
theorem dX10_prepare_51 : decode cX10_prepare 51 = .ok (.aload_n 0, 1) := by decide +kernel
theorem dX10_prepare_52 : decode cX10_prepare 52 = .ok (.getfield 15, 3) := by decide +kernel
theorem dX10_prepare_55 : decode cX10_prepare 55 = .ok (.putfield 71, 3) := by decide +kernel
theorem dX10_prepare_58 : decode cX10_prepare 58 = .ok (.iinc 1 1, 3) := by decide +kernel
theorem dX10_prepare_61 : decode cX10_prepare 61 = .ok (.goto (-59), 3) := by decide +kernel
theorem dX10_prepare_64 : decode cX10_prepare 64 = .ok (.return_, 1) := by decide +kernel
theorem dX10_inState_0 : decode cX10_inState 0 = .ok (.iconst 0, 1) := by decide +kernel
theorem dX10_inState_1 : decode cX10_inState 1 = .ok (.istore_n 2, 1) := by decide +kernel
theorem dX10_inState_2 : decode cX10_inState 2 = .ok (.iconst 0, 1) := by decide +kernel
theorem dX10_inState_3 : decode cX10_inState 3 = .ok (.istore_n 3, 1) := by decide +kernel
theorem dX10_inState_4 : decode cX10_inState 4 = .ok (.iload_n 3, 1) := by decide +kernel
theorem dX10_inState_5 : decode cX10_inState 5 = .ok (.aload_n 0, 1) := by decide +kernel
theorem dX10_inState_6 : decode cX10_inState 6 = .ok (.getfield 60, 3) := by decide +kernel
theorem dX10_inState_9 : decode cX10_inState 9 = .ok (.if_icmp .ge 33, 3) := by decide +kernel
theorem dX10_inState_12 : decode cX10_inState 12 = .ok (.iload_n 2, 1) := by decide +kernel
theorem dX10_inState_13 : decode cX10_inState 13 = .ok (.aload_n 0, 1) := by decide +kernel
theorem dX10_inState_14 : decode cX10_inState 14 = .ok (.getfield 63, 3) := by decide +kernel
theorem dX10_inState_17 : decode cX10_inState 17 = .ok (.iload_n 3, 1) := by decide +kernel
theorem dX10_inState_18 : decode cX10_inState 18 = .ok (.aaload, 1) := by decide +kernel
theorem dX10_inState_19 : decode cX10_inState 19 = .ok (.getfield 39, 3) := by decide +kernel
theorem dX10_inState_22 : decode cX10_inState 22 = .ok (.getfield 43, 3) := by decide +kernel
theorem dX10_inState_25 : decode cX10_inState 25 = .ok (.iload_n 1, 1) := by decide +kernel
theorem dX10_inState_26 : decode cX10_inState 26 = .ok (.if_icmp .ne 7, 3) := by decide +kernel
theorem dX10_inState_29 : decode cX10_inState 29 = .ok (.iconst 1, 1) := by decide +kernel
theorem dX10_inState_30 : decode cX10_inState 30 = .ok (.goto 4, 3) := by decide +kernel
theorem dX10_inState_33 : decode cX10_inState 33 = .ok (.iconst 0, 1) := by decide +kernel
theorem dX10_inState_34 : decode cX10_inState 34 = .ok (.iadd, 1) := by decide +kernel
theorem dX10_inState_35 : decode cX10_inState 35 = .ok (.istore_n 2, 1) := by decide +kernel
theorem dX10_inState_36 : decode cX10_inState 36 = .ok (.iinc 3 1, 3) := by decide +kernel
theorem dX10_inState_39 : decode cX10_inState 39 = .ok (.goto (-35), 3) := by decide +kernel
theorem dX10_inState_42 : decode cX10_inState 42 = .ok (.iload_n 2, 1) := by decide +kernel
theorem dX10_inState_43 : decode cX10_inState 43 = .ok (.ireturn, 1) := by decide +kernel
theorem dX10_endDone_0 : decode cX10_endDone 0 = .ok (.iconst 0, 1) := by decide +kernel
theorem dX10_endDone_1 : decode cX10_endDone 1 = .ok (.istore_n 2, 1) := by decide +kernel
theorem dX10_endDone_2 : decode cX10_endDone 2 = .ok (.iload_n 2, 1) := by decide +kernel
theorem dX10_endDone_3 : decode cX10_endDone 3 = .ok (.aload_n 0, 1) := by decide +kernel
theorem dX10_endDone_4 : decode cX10_endDone 4 = .ok (.getfield 60, 3) := by decide +kernel
theorem dX10_endDone_7 : decode cX10_endDone 7 = .ok (.if_icmp .ge 40, 3) := by decide +kernel
theorem dX10_endDone_10 : decode cX10_endDone 10 = .ok (.aload_n 0, 1) := by decide +kernel
theorem dX10_endDone_11 : decode cX10_endDone 11 = .ok (.getfield 63, 3) := by decide +kernel
theorem dX10_endDone_14 : decode cX10_endDone 14 = .ok (.iload_n 2, 1) := by decide +kernel
theorem dX10_endDone_15 : decode cX10_endDone 15 = .ok (.aaload, 1) := by decide +kernel
theorem dX10_endDone_16 : decode cX10_endDone 16 = .ok (.getfield 39, 3) := by decide +kernel
theorem dX10_endDone_19 : decode cX10_endDone 19 = .ok (.astore_n 3, 1) := by decide +kernel
theorem dX10_endDone_20 : decode cX10_endDone 20 = .ok (.aload_n 3, 1) := by decide +kernel
theorem dX10_endDone_21 : decode cX10_endDone 21 = .ok (.getfield 43, 3) := by decide +kernel
theorem dX10_endDone_24 : decode cX10_endDone 24 = .ok (.iconst 1, 1) := by decide +kernel
theorem dX10_endDone_25 : decode cX10_endDone 25 = .ok (.if_icmp .ne 16, 3) := by decide +kernel
theorem dX10_endDone_28 : decode cX10_endDone 28 = .ok (.aload_n 3, 1) := by decide +kernel
theorem dX10_endDone_29 : decode cX10_endDone 29 = .ok (.getfield 51, 3) := by decide +kernel
theorem dX10_endDone_32 : decode cX10_endDone 32 = .ok (.iload_n 1, 1) := by decide +kernel
theorem dX10_endDone_33 : decode cX10_endDone 33 = .ok (.if_icmp .gt 8, 3) := by decide +kernel
theorem dX10_endDone_36 : decode cX10_endDone 36 = .ok (.aload_n 3, 1) := by decide +kernel
theorem dX10_endDone_37 : decode cX10_endDone 37 = .ok (.iconst 2, 1) := by decide +kernel
theorem dX10_endDone_38 : decode cX10_endDone 38 = .ok (.putfield 43, 3) := by decide +kernel
theorem dX10_endDone_41 : decode cX10_endDone 41 = .ok (.iinc 2 1, 3) := by decide +kernel
theorem dX10_endDone_44 : decode cX10_endDone 44 = .ok (.goto (-42), 3) := by decide +kernel
theorem dX10_endDone_47 : decode cX10_endDone 47 = .ok (.return_, 1) := by decide +kernel
theorem dX10_firstReady_0 : decode cX10_firstReady 0 = .ok (.iconst 0, 1) := by decide +kernel
theorem dX10_firstReady_1 : decode cX10_firstReady 1 = .ok (.istore_n 2, 1) := by decide +kernel
theorem dX10_firstReady_2 : decode cX10_firstReady 2 = .ok (.iload_n 2, 1) := by decide +kernel
theorem dX10_firstReady_3 : decode cX10_firstReady 3 = .ok (.aload_n 0, 1) := by decide +kernel
theorem dX10_firstReady_4 : decode cX10_firstReady 4 = .ok (.getfield 60, 3) := by decide +kernel
theorem dX10_firstReady_7 : decode cX10_firstReady 7 = .ok (.if_icmp .ge 47, 3) := by decide +kernel
theorem dX10_firstReady_10 : decode cX10_firstReady 10 = .ok (.aload_n 0, 1) := by decide +kernel
theorem dX10_firstReady_11 : decode cX10_firstReady 11 = .ok (.getfield 63, 3) := by decide +kernel
theorem dX10_firstReady_14 : decode cX10_firstReady 14 = .ok (.iload_n 2, 1) := by decide +kernel
theorem dX10_firstReady_15 : decode cX10_firstReady 15 = .ok (.aaload, 1) := by decide +kernel
theorem dX10_firstReady_16 : decode cX10_firstReady 16 = .ok (.astore_n 3, 1) := by decide +kernel
theorem dX10_firstReady_17 : decode cX10_firstReady 17 = .ok (.aload_n 3, 1) := by decide +kernel
theorem dX10_firstReady_18 : decode cX10_firstReady 18 = .ok (.getfield 39, 3) := by decide +kernel
theorem dX10_firstReady_21 : decode cX10_firstReady 21 = .ok (.getfield 43, 3) := by decide +kernel
theorem dX10_firstReady_24 : decode cX10_firstReady 24 = .ok (.ifCond .ne 24, 3) := by decide +kernel
theorem dX10_firstReady_27 : decode cX10_firstReady 27 = .ok (.aload_n 3, 1) := by decide +kernel
theorem dX10_firstReady_28 : decode cX10_firstReady 28 = .ok (.getfield 39, 3) := by decide +kernel
theorem dX10_firstReady_31 : decode cX10_firstReady 31 = .ok (.getfield 71, 3) := by decide +kernel
theorem dX10_firstReady_34 : decode cX10_firstReady 34 = .ok (.iload_n 1, 1) := by decide +kernel
theorem dX10_firstReady_35 : decode cX10_firstReady 35 = .ok (.if_icmp .gt 13, 3) := by decide +kernel
theorem dX10_firstReady_38 : decode cX10_firstReady 38 = .ok (.aload_n 0, 1) := by decide +kernel
theorem dX10_firstReady_39 : decode cX10_firstReady 39 = .ok (.aload_n 3, 1) := by decide +kernel
theorem dX10_firstReady_40 : decode cX10_firstReady 40 = .ok (.invokestatic 74, 3) := by decide +kernel
theorem dX10_firstReady_43 : decode cX10_firstReady 43 = .ok (.ifCond .eq 5, 3) := by decide +kernel
theorem dX10_firstReady_46 : decode cX10_firstReady 46 = .ok (.aload_n 3, 1) := by decide +kernel
theorem dX10_firstReady_47 : decode cX10_firstReady 47 = .ok (.areturn, 1) := by decide +kernel
theorem dX10_firstReady_48 : decode cX10_firstReady 48 = .ok (.iinc 2 1, 3) := by decide +kernel
theorem dX10_firstReady_51 : decode cX10_firstReady 51 = .ok (.goto (-49), 3) := by decide +kernel
theorem dX10_firstReady_54 : decode cX10_firstReady 54 = .ok (.aconst_null, 1) := by decide +kernel
theorem dX10_firstReady_55 : decode cX10_firstReady 55 = .ok (.areturn, 1) := by decide +kernel
theorem dX10_isGroupReady_0 : decode cX10_isGroupReady 0 = .ok (.iconst 0, 1) := by decide +kernel
theorem dX10_isGroupReady_1 : decode cX10_isGroupReady 1 = .ok (.istore_n 2, 1) := by decide +kernel
theorem dX10_isGroupReady_2 : decode cX10_isGroupReady 2 = .ok (.iconst 0, 1) := by decide +kernel
theorem dX10_isGroupReady_3 : decode cX10_isGroupReady 3 = .ok (.istore_n 3, 1) := by decide +kernel
theorem dX10_isGroupReady_4 : decode cX10_isGroupReady 4 = .ok (.iload_n 3, 1) := by decide +kernel
theorem dX10_isGroupReady_5 : decode cX10_isGroupReady 5 = .ok (.aload_n 0, 1) := by decide +kernel
theorem dX10_isGroupReady_6 : decode cX10_isGroupReady 6 = .ok (.getfield 60, 3) := by decide +kernel
theorem dX10_isGroupReady_9 : decode cX10_isGroupReady 9 = .ok (.if_icmp .ge 74, 3) := by decide +kernel
theorem dX10_isGroupReady_12 : decode cX10_isGroupReady 12 = .ok (.aload_n 0, 1) := by decide +kernel
theorem dX10_isGroupReady_13 : decode cX10_isGroupReady 13 = .ok (.getfield 63, 3) := by decide +kernel
theorem dX10_isGroupReady_16 : decode cX10_isGroupReady 16 = .ok (.iload_n 3, 1) := by decide +kernel
theorem dX10_isGroupReady_17 : decode cX10_isGroupReady 17 = .ok (.aaload, 1) := by decide +kernel
theorem dX10_isGroupReady_18 : decode cX10_isGroupReady 18 = .ok (.astore 4, 2) := by decide +kernel
theorem dX10_isGroupReady_20 : decode cX10_isGroupReady 20 = .ok (.aload 4, 2) := by decide +kernel
theorem dX10_isGroupReady_22 : decode cX10_isGroupReady 22 = .ok (.getfield 78, 3) := by decide +kernel
theorem dX10_isGroupReady_25 : decode cX10_isGroupReady 25 = .ok (.aload_n 1, 1) := by decide +kernel
theorem dX10_isGroupReady_26 : decode cX10_isGroupReady 26 = .ok (.getfield 78, 3) := by decide +kernel
theorem dX10_isGroupReady_29 : decode cX10_isGroupReady 29 = .ok (.if_icmp .ne 48, 3) := by decide +kernel
theorem dX10_isGroupReady_32 : decode cX10_isGroupReady 32 = .ok (.aload 4, 2) := by decide +kernel
theorem dX10_isGroupReady_34 : decode cX10_isGroupReady 34 = .ok (.getfield 34, 3) := by decide +kernel
theorem dX10_isGroupReady_37 : decode cX10_isGroupReady 37 = .ok (.aload_n 1, 1) := by decide +kernel
theorem dX10_isGroupReady_38 : decode cX10_isGroupReady 38 = .ok (.getfield 34, 3) := by decide +kernel
theorem dX10_isGroupReady_41 : decode cX10_isGroupReady 41 = .ok (.if_icmp .ge 16, 3) := by decide +kernel
theorem dX10_isGroupReady_44 : decode cX10_isGroupReady 44 = .ok (.aload 4, 2) := by decide +kernel
theorem dX10_isGroupReady_46 : decode cX10_isGroupReady 46 = .ok (.getfield 39, 3) := by decide +kernel
theorem dX10_isGroupReady_49 : decode cX10_isGroupReady 49 = .ok (.getfield 43, 3) := by decide +kernel
theorem dX10_isGroupReady_52 : decode cX10_isGroupReady 52 = .ok (.ifCond .ne 5, 3) := by decide +kernel
theorem dX10_isGroupReady_55 : decode cX10_isGroupReady 55 = .ok (.iconst 0, 1) := by decide +kernel
theorem dX10_isGroupReady_56 : decode cX10_isGroupReady 56 = .ok (.ireturn, 1) := by decide +kernel
theorem dX10_isGroupReady_57 : decode cX10_isGroupReady 57 = .ok (.iload_n 2, 1) := by decide +kernel
theorem dX10_isGroupReady_58 : decode cX10_isGroupReady 58 = .ok (.aload 4, 2) := by decide +kernel
theorem dX10_isGroupReady_60 : decode cX10_isGroupReady 60 = .ok (.getfield 39, 3) := by decide +kernel
theorem dX10_isGroupReady_63 : decode cX10_isGroupReady 63 = .ok (.getfield 43, 3) := by decide +kernel
theorem dX10_isGroupReady_66 : decode cX10_isGroupReady 66 = .ok (.iconst 1, 1) := by decide +kernel
theorem dX10_isGroupReady_67 : decode cX10_isGroupReady 67 = .ok (.if_icmp .ne 7, 3) := by decide +kernel
theorem dX10_isGroupReady_70 : decode cX10_isGroupReady 70 = .ok (.iconst 1, 1) := by decide +kernel
theorem dX10_isGroupReady_71 : decode cX10_isGroupReady 71 = .ok (.goto 4, 3) := by decide +kernel
theorem dX10_isGroupReady_74 : decode cX10_isGroupReady 74 = .ok (.iconst 0, 1) := by decide +kernel
theorem dX10_isGroupReady_75 : decode cX10_isGroupReady 75 = .ok (.iadd, 1) := by decide +kernel
theorem dX10_isGroupReady_76 : decode cX10_isGroupReady 76 = .ok (.istore_n 2, 1) := by decide +kernel
theorem dX10_isGroupReady_77 : decode cX10_isGroupReady 77 = .ok (.iinc 3 1, 3) := by decide +kernel
theorem dX10_isGroupReady_80 : decode cX10_isGroupReady 80 = .ok (.goto (-76), 3) := by decide +kernel
theorem dX10_isGroupReady_83 : decode cX10_isGroupReady 83 = .ok (.iload_n 2, 1) := by decide +kernel
theorem dX10_isGroupReady_84 : decode cX10_isGroupReady 84 = .ok (.aload_n 0, 1) := by decide +kernel
theorem dX10_isGroupReady_85 : decode cX10_isGroupReady 85 = .ok (.getfield 81, 3) := by decide +kernel
theorem dX10_isGroupReady_88 : decode cX10_isGroupReady 88 = .ok (.aload_n 1, 1) := by decide +kernel
theorem dX10_isGroupReady_89 : decode cX10_isGroupReady 89 = .ok (.getfield 78, 3) := by decide +kernel
theorem dX10_isGroupReady_92 : decode cX10_isGroupReady 92 = .ok (.iaload, 1) := by decide +kernel
theorem dX10_isGroupReady_93 : decode cX10_isGroupReady 93 = .ok (.if_icmp .ge 7, 3) := by decide +kernel
theorem dX10_isGroupReady_96 : decode cX10_isGroupReady 96 = .ok (.iconst 1, 1) := by decide +kernel
theorem dX10_isGroupReady_97 : decode cX10_isGroupReady 97 = .ok (.goto 4, 3) := by decide +kernel
theorem dX10_isGroupReady_100 : decode cX10_isGroupReady 100 = .ok (.iconst 0, 1) := by decide +kernel
theorem dX10_isGroupReady_101 : decode cX10_isGroupReady 101 = .ok (.ireturn, 1) := by decide +kernel
theorem dX11_init_0 : decode cX11_init 0 = .ok (.aload_n 0, 1) := by decide +kernel
theorem dX11_init_1 : decode cX11_init 1 = .ok (.invokespecial 1, 3) := by decide +kernel
theorem dX11_init_4 : decode cX11_init 4 = .ok (.aload_n 0, 1) := by decide +kernel
theorem dX11_init_5 : decode cX11_init 5 = .ok (.new 7, 3) := by decide +kernel
theorem dX11_init_8 : decode cX11_init 8 = .ok (.dup, 1) := by decide +kernel
theorem dX11_init_9 : decode cX11_init 9 = .ok (.invokespecial 9, 3) := by decide +kernel
theorem dX11_init_12 : decode cX11_init 12 = .ok (.putfield 10, 3) := by decide +kernel
theorem dX11_init_15 : decode cX11_init 15 = .ok (.aload_n 0, 1) := by decide +kernel
theorem dX11_init_16 : decode cX11_init 16 = .ok (.new 16, 3) := by decide +kernel
theorem dX11_init_19 : decode cX11_init 19 = .ok (.dup, 1) := by decide +kernel
theorem dX11_init_20 : decode cX11_init 20 = .ok (.invokespecial 18, 3) := by decide +kernel
theorem dX11_init_23 : decode cX11_init 23 = .ok (.putfield 19, 3) := by decide +kernel
theorem dX11_init_26 : decode cX11_init 26 = .ok (.aload_n 0, 1) := by decide +kernel
theorem dX11_init_27 : decode cX11_init 27 = .ok (.new 23, 3) := by decide +kernel
theorem dX11_init_30 : decode cX11_init 30 = .ok (.dup, 1) := by decide +kernel
theorem dX11_init_31 : decode cX11_init 31 = .ok (.invokespecial 25, 3) := by decide +kernel
theorem dX11_init_34 : decode cX11_init 34 = .ok (.putfield 26, 3) := by decide +kernel
theorem dX11_init_37 : decode cX11_init 37 = .ok (.aload_n 0, 1) := by decide +kernel
theorem dX11_init_38 : decode cX11_init 38 = .ok (.new 30, 3) := by decide +kernel
theorem dX11_init_41 : decode cX11_init 41 = .ok (.dup, 1) := by decide +kernel
theorem dX11_init_42 : decode cX11_init 42 = .ok (.invokespecial 32, 3) := by decide +kernel
theorem dX11_init_45 : decode cX11_init 45 = .ok (.putfield 33, 3) := by decide +kernel
theorem dX11_init_48 : decode cX11_init 48 = .ok (.aload_n 0, 1) := by decide +kernel
theorem dX11_init_49 : decode cX11_init 49 = .ok (.new 30, 3) := by decide +kernel
theorem dX11_init_52 : decode cX11_init 52 = .ok (.dup, 1) := by decide +kernel
theorem dX11_init_53 : decode cX11_init 53 = .ok (.invokespecial 32, 3) := by decide +kernel
theorem dX11_init_56 : decode cX11_init 56 = .ok (.putfield 37, 3) := by decide +kernel
theorem dX11_init_59 : decode cX11_init 59 = .ok (.aload_n 0, 1) := by decide +kernel
theorem dX11_init_60 : decode cX11_init 60 = .ok (.new 30, 3) := by decide +kernel
theorem dX11_init_63 : decode cX11_init 63 = .ok (.dup, 1) := by decide +kernel
theorem dX11_init_64 : decode cX11_init 64 = .ok (.invokespecial 32, 3) := by decide +kernel
theorem dX11_init_67 : decode cX11_init 67 = .ok (.putfield 40, 3) := by decide +kernel
theorem dX11_init_70 : decode cX11_init 70 = .ok (.return_, 1) := by decide +kernel
theorem dX11_feed_0 : decode cX11_feed 0 = .ok (.aload_n 0, 1) := by decide +kernel
theorem dX11_feed_1 : decode cX11_feed 1 = .ok (.getfield 10, 3) := by decide +kernel
theorem dX11_feed_4 : decode cX11_feed 4 = .ok (.invokevirtual 43, 3) := by decide +kernel
theorem dX11_feed_7 : decode cX11_feed 7 = .ok (.ifCond .ne 5, 3) := by decide +kernel
theorem dX11_feed_10 : decode cX11_feed 10 = .ok (.iconst (-1), 1) := by decide +kernel
theorem dX11_feed_11 : decode cX11_feed 11 = .ok (.ireturn, 1) := by decide +kernel
theorem dX11_feed_12 : decode cX11_feed 12 = .ok (.aload_n 0, 1) := by decide +kernel
theorem dX11_feed_13 : decode cX11_feed 13 = .ok (.getfield 10, 3) := by decide +kernel
theorem dX11_feed_16 : decode cX11_feed 16 = .ok (.iload_n 1, 1) := by decide +kernel
theorem dX11_feed_17 : decode cX11_feed 17 = .ok (.invokevirtual 47, 3) := by decide +kernel
theorem dX11_feed_20 : decode cX11_feed 20 = .ok (.aload_n 0, 1) := by decide +kernel
theorem dX11_feed_21 : decode cX11_feed 21 = .ok (.getfield 10, 3) := by decide +kernel
theorem dX11_feed_24 : decode cX11_feed 24 = .ok (.iload_n 2, 1) := by decide +kernel
theorem dX11_feed_25 : decode cX11_feed 25 = .ok (.invokevirtual 47, 3) := by decide +kernel
theorem dX11_feed_28 : decode cX11_feed 28 = .ok (.aload_n 0, 1) := by decide +kernel
theorem dX11_feed_29 : decode cX11_feed 29 = .ok (.getfield 10, 3) := by decide +kernel
theorem dX11_feed_32 : decode cX11_feed 32 = .ok (.iload_n 3, 1) := by decide +kernel
theorem dX11_feed_33 : decode cX11_feed 33 = .ok (.invokevirtual 47, 3) := by decide +kernel
theorem dX11_feed_36 : decode cX11_feed 36 = .ok (.aload_n 0, 1) := by decide +kernel
theorem dX11_feed_37 : decode cX11_feed 37 = .ok (.getfield 10, 3) := by decide +kernel
theorem dX11_feed_40 : decode cX11_feed 40 = .ok (.iload 4, 2) := by decide +kernel
theorem dX11_feed_42 : decode cX11_feed 42 = .ok (.invokevirtual 47, 3) := by decide +kernel
theorem dX11_feed_45 : decode cX11_feed 45 = .ok (.aload_n 0, 1) := by decide +kernel
theorem dX11_feed_46 : decode cX11_feed 46 = .ok (.getfield 10, 3) := by decide +kernel
theorem dX11_feed_49 : decode cX11_feed 49 = .ok (.iload 5, 2) := by decide +kernel
theorem dX11_feed_51 : decode cX11_feed 51 = .ok (.invokevirtual 47, 3) := by decide +kernel
theorem dX11_feed_54 : decode cX11_feed 54 = .ok (.aload_n 0, 1) := by decide +kernel
theorem dX11_feed_55 : decode cX11_feed 55 = .ok (.getfield 10, 3) := by decide +kernel
theorem dX11_feed_58 : decode cX11_feed 58 = .ok (.getfield 51, 3) := by decide +kernel
theorem dX11_feed_61 : decode cX11_feed 61 = .ok (.ireturn, 1) := by decide +kernel
theorem dX11_end_0 : decode cX11_end 0 = .ok (.iload_n 1, 1) := by decide +kernel
theorem dX11_end_1 : decode cX11_end 1 = .ok (.ifCond .lt 14, 3) := by decide +kernel
theorem dX11_end_4 : decode cX11_end 4 = .ok (.iload_n 1, 1) := by decide +kernel
theorem dX11_end_5 : decode cX11_end 5 = .ok (.aload_n 0, 1) := by decide +kernel
theorem dX11_end_6 : decode cX11_end 6 = .ok (.getfield 10, 3) := by decide +kernel
theorem dX11_end_9 : decode cX11_end 9 = .ok (.getfield 51, 3) := by decide +kernel
theorem dX11_end_12 : decode cX11_end 12 = .ok (.if_icmp .le 5, 3) := by decide +kernel
theorem dX11_end_15 : decode cX11_end 15 = .ok (.iconst 0, 1) := by decide +kernel
theorem dX11_end_16 : decode cX11_end 16 = .ok (.ireturn, 1) := by decide +kernel
theorem dX11_end_17 : decode cX11_end 17 = .ok (.aload_n 0, 1) := by decide +kernel
theorem dX11_end_18 : decode cX11_end 18 = .ok (.getfield 10, 3) := by decide +kernel
theorem dX11_end_21 : decode cX11_end 21 = .ok (.iload_n 1, 1) := by decide +kernel
theorem dX11_end_22 : decode cX11_end 22 = .ok (.putfield 51, 3) := by decide +kernel
theorem dX11_end_25 : decode cX11_end 25 = .ok (.iconst 1, 1) := by decide +kernel
theorem dX11_end_26 : decode cX11_end 26 = .ok (.ireturn, 1) := by decide +kernel
theorem dX11_table_0 : decode cX11_table 0 = .ok (.aload_n 0, 1) := by decide +kernel
theorem dX11_table_1 : decode cX11_table 1 = .ok (.getfield 10, 3) := by decide +kernel
theorem dX11_table_4 : decode cX11_table 4 = .ok (.invokevirtual 55, 3) := by decide +kernel
theorem dX11_table_7 : decode cX11_table 7 = .ok (.aload_n 0, 1) := by decide +kernel
theorem dX11_table_8 : decode cX11_table 8 = .ok (.getfield 40, 3) := by decide +kernel
theorem dX11_table_11 : decode cX11_table 11 = .ok (.aload_n 0, 1) := by decide +kernel
theorem dX11_table_12 : decode cX11_table 12 = .ok (.getfield 37, 3) := by decide +kernel
theorem dX11_table_15 : decode cX11_table 15 = .ok (.invokevirtual 58, 3) := by decide +kernel
theorem dX11_table_18 : decode cX11_table 18 = .ok (.aload_n 0, 1) := by decide +kernel
theorem dX11_table_19 : decode cX11_table 19 = .ok (.getfield 40, 3) := by decide +kernel
theorem dX11_table_22 : decode cX11_table 22 = .ok (.aload_n 0, 1) := by decide +kernel
theorem dX11_table_23 : decode cX11_table 23 = .ok (.getfield 10, 3) := by decide +kernel
theorem dX11_table_26 : decode cX11_table 26 = .ok (.invokestatic 62, 3) := by decide +kernel
theorem dX11_table_29 : decode cX11_table 29 = .ok (.ifCond .ne 11, 3) := by decide +kernel
theorem dX11_table_32 : decode cX11_table 32 = .ok (.new 68, 3) := by decide +kernel
theorem dX11_table_35 : decode cX11_table 35 = .ok (.dup, 1) := by decide +kernel
theorem dX11_table_36 : decode cX11_table 36 = .ok (.invokespecial 70, 3) := by decide +kernel
theorem dX11_table_39 : decode cX11_table 39 = .ok (.athrow, 1) := by decide +kernel
theorem dX11_table_40 : decode cX11_table 40 = .ok (.aload_n 0, 1) := by decide +kernel
theorem dX11_table_41 : decode cX11_table 41 = .ok (.getfield 37, 3) := by decide +kernel
theorem dX11_table_44 : decode cX11_table 44 = .ok (.getfield 71, 3) := by decide +kernel
theorem dX11_table_47 : decode cX11_table 47 = .ok (.bipush 12, 2) := by decide +kernel
theorem dX11_table_49 : decode cX11_table 49 = .ok (.if_icmp .lt 11, 3) := by decide +kernel
theorem dX11_table_52 : decode cX11_table 52 = .ok (.new 74, 3) := by decide +kernel
theorem dX11_table_55 : decode cX11_table 55 = .ok (.dup, 1) := by decide +kernel
theorem dX11_table_56 : decode cX11_table 56 = .ok (.invokespecial 76, 3) := by decide +kernel
theorem dX11_table_59 : decode cX11_table 59 = .ok (.athrow, 1) := by decide +kernel
theorem dX11_table_60 : decode cX11_table 60 = .ok (.aload_n 0, 1) := by decide +kernel
theorem dX11_table_61 : decode cX11_table 61 = .ok (.getfield 37, 3) := by decide +kernel
theorem dX11_table_64 : decode cX11_table 64 = .ok (.astore_n 1, 1) := by decide +kernel
theorem dX11_table_65 : decode cX11_table 65 = .ok (.aload_n 0, 1) := by decide +kernel
theorem dX11_table_66 : decode cX11_table 66 = .ok (.aload_n 0, 1) := by decide +kernel
theorem dX11_table_67 : decode cX11_table 67 = .ok (.getfield 40, 3) := by decide +kernel
theorem dX11_table_70 : decode cX11_table 70 = .ok (.putfield 37, 3) := by decide +kernel
theorem dX11_table_73 : decode cX11_table 73 = .ok (.aload_n 0, 1) := by decide +kernel
theorem dX11_table_74 : decode cX11_table 74 = .ok (.aload_n 1, 1) := by decide +kernel
theorem dX11_table_75 : decode cX11_table 75 = .ok (.putfield 40, 3) := by decide +kernel
theorem dX11_table_78 : decode cX11_table 78 = .ok (.aload_n 0, 1) := by decide +kernel
theorem dX11_table_79 : decode cX11_table 79 = .ok (.getfield 37, 3) := by decide +kernel
theorem dX11_table_82 : decode cX11_table 82 = .ok (.dup, 1) := by decide +kernel
theorem dX11_table_83 : decode cX11_table 83 = .ok (.getfield 71, 3) := by decide +kernel
theorem dX11_table_86 : decode cX11_table 86 = .ok (.iconst 1, 1) := by decide +kernel
theorem dX11_table_87 : decode cX11_table 87 = .ok (.iadd, 1) := by decide +kernel
theorem dX11_table_88 : decode cX11_table 88 = .ok (.putfield 71, 3) := by decide +kernel
theorem dX11_table_91 : decode cX11_table 91 = .ok (.aload_n 0, 1) := by decide +kernel
theorem dX11_table_92 : decode cX11_table 92 = .ok (.getfield 37, 3) := by decide +kernel
theorem dX11_table_95 : decode cX11_table 95 = .ok (.getfield 71, 3) := by decide +kernel
theorem dX11_table_98 : decode cX11_table 98 = .ok (.ireturn, 1) := by decide +kernel
theorem dX11_query_0 : decode cX11_query 0 = .ok (.aload_n 0, 1) := by decide +kernel
theorem dX11_query_1 : decode cX11_query 1 = .ok (.getfield 10, 3) := by decide +kernel
theorem dX11_query_4 : decode cX11_query 4 = .ok (.invokevirtual 55, 3) := by decide +kernel
theorem dX11_query_7 : decode cX11_query 7 = .ok (.aload_n 0, 1) := by decide +kernel
theorem dX11_query_8 : decode cX11_query 8 = .ok (.iload_n 1, 1) := by decide +kernel
theorem dX11_query_9 : decode cX11_query 9 = .ok (.invokevirtual 77, 3) := by decide +kernel
theorem dX11_query_12 : decode cX11_query 12 = .ok (.aload_n 0, 1) := by decide +kernel
theorem dX11_query_13 : decode cX11_query 13 = .ok (.getfield 19, 3) := by decide +kernel
theorem dX11_query_16 : decode cX11_query 16 = .ok (.aload_n 0, 1) := by decide +kernel
theorem dX11_query_17 : decode cX11_query 17 = .ok (.getfield 10, 3) := by decide +kernel
theorem dX11_query_20 : decode cX11_query 20 = .ok (.invokevirtual 80, 3) := by decide +kernel
theorem dX11_query_23 : decode cX11_query 23 = .ok (.ifCond .ne 11, 3) := by decide +kernel
theorem dX11_query_26 : decode cX11_query 26 = .ok (.new 68, 3) := by decide +kernel
theorem dX11_query_29 : decode cX11_query 29 = .ok (.dup, 1) := by decide +kernel
theorem dX11_query_30 : decode cX11_query 30 = .ok (.invokespecial 70, 3) := by decide +kernel
theorem dX11_query_33 : decode cX11_query 33 = .ok (.athrow, 1) := by decide +kernel
theorem dX11_query_34 : decode cX11_query 34 = .ok (.aload_n 0, 1) := by decide +kernel
theorem dX11_query_35 : decode cX11_query 35 = .ok (.getfield 37, 3) := by decide +kernel
theorem dX11_query_38 : decode cX11_query 38 = .ok (.getfield 84, 3) := by decide +kernel
theorem dX11_query_41 : decode cX11_query 41 = .ok (.iload_n 1, 1) := by decide +kernel
theorem dX11_query_42 : decode cX11_query 42 = .ok (.aaload, 1) := by decide +kernel
theorem dX11_query_43 : decode cX11_query 43 = .ok (.getfield 88, 3) := by decide +kernel
theorem dX11_query_46 : decode cX11_query 46 = .ok (.aload_n 0, 1) := by decide +kernel
theorem dX11_query_47 : decode cX11_query 47 = .ok (.getfield 19, 3) := by decide +kernel
theorem dX11_query_50 : decode cX11_query 50 = .ok (.invokevirtual 93, 3) := by decide +kernel
theorem dX11_query_53 : decode cX11_query 53 = .ok (.aload_n 0, 1) := by decide +kernel
theorem dX11_query_54 : decode cX11_query 54 = .ok (.getfield 19, 3) := by decide +kernel
theorem dX11_query_57 : decode cX11_query 57 = .ok (.getfield 96, 3) := by decide +kernel
theorem dX11_query_60 : decode cX11_query 60 = .ok (.ireturn, 1) := by decide +kernel
theorem dX11_fault_0 : decode cX11_fault 0 = .ok (.aload_n 0, 1) := by decide +kernel
theorem dX11_fault_1 : decode cX11_fault 1 = .ok (.getfield 10, 3) := by decide +kernel
theorem dX11_fault_4 : decode cX11_fault 4 = .ok (.getfield 99, 3) := by decide +kernel
theorem dX11_fault_7 : decode cX11_fault 7 = .ok (.ireturn, 1) := by decide +kernel
theorem dX11_why_0 : decode cX11_why 0 = .ok (.aload_n 0, 1) := by decide +kernel
theorem dX11_why_1 : decode cX11_why 1 = .ok (.getfield 102, 3) := by decide +kernel
theorem dX11_why_4 : decode cX11_why 4 = .ok (.ireturn, 1) := by decide +kernel
theorem dX11_begin_0 : decode cX11_begin 0 = .ok (.aload_n 0, 1) := by decide +kernel
theorem dX11_begin_1 : decode cX11_begin 1 = .ok (.iload_n 1, 1) := by decide +kernel
theorem dX11_begin_2 : decode cX11_begin 2 = .ok (.invokevirtual 77, 3) := by decide +kernel
theorem dX11_begin_5 : decode cX11_begin 5 = .ok (.aload_n 0, 1) := by decide +kernel
theorem dX11_begin_6 : decode cX11_begin 6 = .ok (.aload_n 0, 1) := by decide +kernel
theorem dX11_begin_7 : decode cX11_begin 7 = .ok (.getfield 37, 3) := by decide +kernel
theorem dX11_begin_10 : decode cX11_begin 10 = .ok (.getfield 84, 3) := by decide +kernel
theorem dX11_begin_13 : decode cX11_begin 13 = .ok (.iload_n 1, 1) := by decide +kernel
theorem dX11_begin_14 : decode cX11_begin 14 = .ok (.aaload, 1) := by decide +kernel
theorem dX11_begin_15 : decode cX11_begin 15 = .ok (.getfield 105, 3) := by decide +kernel
theorem dX11_begin_18 : decode cX11_begin 18 = .ok (.ifCond .eq 7, 3) := by decide +kernel
theorem dX11_begin_21 : decode cX11_begin 21 = .ok (.iconst 1, 1) := by decide +kernel
theorem dX11_begin_22 : decode cX11_begin 22 = .ok (.goto 4, 3) := by decide +kernel
theorem dX11_begin_25 : decode cX11_begin 25 = .ok (.iconst 0, 1) := by decide +kernel
theorem dX11_begin_26 : decode cX11_begin 26 = .ok (.invokevirtual 109, 3) := by decide +kernel
theorem dX11_begin_29 : decode cX11_begin 29 = .ok (.aload_n 0, 1) := by decide +kernel
theorem dX11_begin_30 : decode cX11_begin 30 = .ok (.getfield 37, 3) := by decide +kernel
theorem dX11_begin_33 : decode cX11_begin 33 = .ok (.getfield 84, 3) := by decide +kernel
theorem dX11_begin_36 : decode cX11_begin 36 = .ok (.iload_n 1, 1) := by decide +kernel
theorem dX11_begin_37 : decode cX11_begin 37 = .ok (.aaload, 1) := by decide +kernel
theorem dX11_begin_38 : decode cX11_begin 38 = .ok (.iconst 1, 1) := by decide +kernel
theorem dX11_begin_39 : decode cX11_begin 39 = .ok (.putfield 105, 3) := by decide +kernel
theorem dX11_begin_42 : decode cX11_begin 42 = .ok (.aload_n 0, 1) := by decide +kernel
theorem dX11_begin_43 : decode cX11_begin 43 = .ok (.getfield 37, 3) := by decide +kernel
theorem dX11_begin_46 : decode cX11_begin 46 = .ok (.invokevirtual 112, 3) := by decide +kernel
theorem dX11_begin_49 : decode cX11_begin 49 = .ok (.ireturn, 1) := by decide +kernel
theorem dX11_save_0 : decode cX11_save 0 = .ok (.aload_n 0, 1) := by decide +kernel
theorem dX11_save_1 : decode cX11_save 1 = .ok (.iload_n 1, 1) := by decide +kernel
theorem dX11_save_2 : decode cX11_save 2 = .ok (.invokevirtual 77, 3) := by decide +kernel
theorem dX11_save_5 : decode cX11_save 5 = .ok (.aload_n 0, 1) := by decide +kernel
theorem dX11_save_6 : decode cX11_save 6 = .ok (.getfield 37, 3) := by decide +kernel
theorem dX11_save_9 : decode cX11_save 9 = .ok (.getfield 84, 3) := by decide +kernel
theorem dX11_save_12 : decode cX11_save 12 = .ok (.iload_n 1, 1) := by decide +kernel
theorem dX11_save_13 : decode cX11_save 13 = .ok (.aaload, 1) := by decide +kernel
theorem dX11_save_14 : decode cX11_save 14 = .ok (.astore_n 2, 1) := by decide +kernel
theorem dX11_save_15 : decode cX11_save 15 = .ok (.aload_n 0, 1) := by decide +kernel
theorem dX11_save_16 : decode cX11_save 16 = .ok (.aload_n 2, 1) := by decide +kernel
theorem dX11_save_17 : decode cX11_save 17 = .ok (.getfield 105, 3) := by decide +kernel
theorem dX11_save_20 : decode cX11_save 20 = .ok (.ifCond .eq 15, 3) := by decide +kernel
theorem dX11_save_23 : decode cX11_save 23 = .ok (.aload_n 2, 1) := by decide +kernel
theorem dX11_save_24 : decode cX11_save 24 = .ok (.getfield 116, 3) := by decide +kernel
theorem dX11_save_27 : decode cX11_save 27 = .ok (.iconst 4, 1) := by decide +kernel
theorem dX11_save_28 : decode cX11_save 28 = .ok (.if_icmp .ge 7, 3) := by decide +kernel
theorem dX11_save_31 : decode cX11_save 31 = .ok (.iconst 0, 1) := by decide +kernel
theorem dX11_save_32 : decode cX11_save 32 = .ok (.goto 4, 3) := by decide +kernel
theorem dX11_save_35 : decode cX11_save 35 = .ok (.iconst 1, 1) := by decide +kernel
theorem dX11_save_36 : decode cX11_save 36 = .ok (.invokevirtual 109, 3) := by decide +kernel
theorem dX11_save_39 : decode cX11_save 39 = .ok (.aload_n 0, 1) := by decide +kernel
theorem dX11_save_40 : decode cX11_save 40 = .ok (.getfield 37, 3) := by decide +kernel
theorem dX11_save_43 : decode cX11_save 43 = .ok (.iload_n 1, 1) := by decide +kernel
theorem dX11_save_44 : decode cX11_save 44 = .ok (.invokevirtual 119, 3) := by decide +kernel
theorem dX11_save_47 : decode cX11_save 47 = .ok (.aload_n 2, 1) := by decide +kernel
theorem dX11_save_48 : decode cX11_save 48 = .ok (.getfield 116, 3) := by decide +kernel
theorem dX11_save_51 : decode cX11_save 51 = .ok (.iconst 1, 1) := by decide +kernel
theorem dX11_save_52 : decode cX11_save 52 = .ok (.isub, 1) := by decide +kernel
theorem dX11_save_53 : decode cX11_save 53 = .ok (.ireturn, 1) := by decide +kernel
theorem dX11_undo_0 : decode cX11_undo 0 = .ok (.aload_n 0, 1) := by decide +kernel
theorem dX11_undo_1 : decode cX11_undo 1 = .ok (.iload_n 1, 1) := by decide +kernel
theorem dX11_undo_2 : decode cX11_undo 2 = .ok (.invokevirtual 77, 3) := by decide +kernel
theorem dX11_undo_5 : decode cX11_undo 5 = .ok (.aload_n 0, 1) := by decide +kernel
theorem dX11_undo_6 : decode cX11_undo 6 = .ok (.getfield 37, 3) := by decide +kernel
theorem dX11_undo_9 : decode cX11_undo 9 = .ok (.getfield 84, 3) := by decide +kernel
theorem dX11_undo_12 : decode cX11_undo 12 = .ok (.iload_n 1, 1) := by decide +kernel
theorem dX11_undo_13 : decode cX11_undo 13 = .ok (.aaload, 1) := by decide +kernel
theorem dX11_undo_14 : decode cX11_undo 14 = .ok (.astore_n 3, 1) := by decide +kernel
theorem dX11_undo_15 : decode cX11_undo 15 = .ok (.aload_n 3, 1) := by decide +kernel
theorem dX11_undo_16 : decode cX11_undo 16 = .ok (.getfield 105, 3) := by decide +kernel
theorem dX11_undo_19 : decode cX11_undo 19 = .ok (.ifCond .eq 23, 3) := by decide +kernel
theorem dX11_undo_22 : decode cX11_undo 22 = .ok (.iload_n 2, 1) := by decide +kernel
theorem dX11_undo_23 : decode cX11_undo 23 = .ok (.ifCond .lt 11, 3) := by decide +kernel
theorem dX11_undo_26 : decode cX11_undo 26 = .ok (.iload_n 2, 1) := by decide +kernel
theorem dX11_undo_27 : decode cX11_undo 27 = .ok (.aload_n 3, 1) := by decide +kernel
theorem dX11_undo_28 : decode cX11_undo 28 = .ok (.getfield 116, 3) := by decide +kernel
theorem dX11_undo_31 : decode cX11_undo 31 = .ok (.if_icmp .lt 11, 3) := by decide +kernel
theorem dX11_undo_34 : decode cX11_undo 34 = .ok (.new 68, 3) := by decide +kernel
theorem dX11_undo_37 : decode cX11_undo 37 = .ok (.dup, 1) := by decide +kernel
theorem dX11_undo_38 : decode cX11_undo 38 = .ok (.invokespecial 70, 3) := by decide +kernel
theorem dX11_undo_41 : decode cX11_undo 41 = .ok (.athrow, 1) := by decide +kernel
theorem dX11_undo_42 : decode cX11_undo 42 = .ok (.aload_n 0, 1) := by decide +kernel
theorem dX11_undo_43 : decode cX11_undo 43 = .ok (.iload_n 1, 1) := by decide +kernel
theorem dX11_undo_44 : decode cX11_undo 44 = .ok (.invokevirtual 122, 3) := by decide +kernel
theorem dX11_undo_47 : decode cX11_undo 47 = .ok (.aload_n 0, 1) := by decide +kernel
theorem dX11_undo_48 : decode cX11_undo 48 = .ok (.getfield 37, 3) := by decide +kernel
theorem dX11_undo_51 : decode cX11_undo 51 = .ok (.iload_n 1, 1) := by decide +kernel
theorem dX11_undo_52 : decode cX11_undo 52 = .ok (.iload_n 2, 1) := by decide +kernel
theorem dX11_undo_53 : decode cX11_undo 53 = .ok (.invokevirtual 125, 3) := by decide +kernel
theorem dX11_undo_56 : decode cX11_undo 56 = .ok (.ireturn, 1) := by decide +kernel
theorem dX11_commit_0 : decode cX11_commit 0 = .ok (.aload_n 0, 1) := by decide +kernel
theorem dX11_commit_1 : decode cX11_commit 1 = .ok (.iload_n 1, 1) := by decide +kernel
theorem dX11_commit_2 : decode cX11_commit 2 = .ok (.invokevirtual 77, 3) := by decide +kernel
theorem dX11_commit_5 : decode cX11_commit 5 = .ok (.aload_n 0, 1) := by decide +kernel
theorem dX11_commit_6 : decode cX11_commit 6 = .ok (.iload_n 1, 1) := by decide +kernel
theorem dX11_commit_7 : decode cX11_commit 7 = .ok (.invokevirtual 122, 3) := by decide +kernel
theorem dX11_commit_10 : decode cX11_commit 10 = .ok (.aload_n 0, 1) := by decide +kernel
theorem dX11_commit_11 : decode cX11_commit 11 = .ok (.getfield 37, 3) := by decide +kernel
theorem dX11_commit_14 : decode cX11_commit 14 = .ok (.iload_n 1, 1) := by decide +kernel
theorem dX11_commit_15 : decode cX11_commit 15 = .ok (.invokevirtual 129, 3) := by decide +kernel
theorem dX11_commit_18 : decode cX11_commit 18 = .ok (.ireturn, 1) := by decide +kernel
theorem dX11_roll_0 : decode cX11_roll 0 = .ok (.aload_n 0, 1) := by decide +kernel
theorem dX11_roll_1 : decode cX11_roll 1 = .ok (.iload_n 1, 1) := by decide +kernel
theorem dX11_roll_2 : decode cX11_roll 2 = .ok (.invokevirtual 77, 3) := by decide +kernel
theorem dX11_roll_5 : decode cX11_roll 5 = .ok (.aload_n 0, 1) := by decide +kernel
theorem dX11_roll_6 : decode cX11_roll 6 = .ok (.iload_n 1, 1) := by decide +kernel
theorem dX11_roll_7 : decode cX11_roll 7 = .ok (.invokevirtual 122, 3) := by decide +kernel
theorem dX11_roll_10 : decode cX11_roll 10 = .ok (.aload_n 0, 1) := by decide +kernel
theorem dX11_roll_11 : decode cX11_roll 11 = .ok (.getfield 37, 3) := by decide +kernel
theorem dX11_roll_14 : decode cX11_roll 14 = .ok (.iload_n 1, 1) := by decide +kernel
theorem dX11_roll_15 : decode cX11_roll 15 = .ok (.invokevirtual 133, 3) := by decide +kernel
theorem dX11_roll_18 : decode cX11_roll 18 = .ok (.ireturn, 1) := by decide +kernel
theorem dX11_claim_0 : decode cX11_claim 0 = .ok (.aload_n 0, 1) := by decide +kernel
theorem dX11_claim_1 : decode cX11_claim 1 = .ok (.iload_n 1, 1) := by decide +kernel
theorem dX11_claim_2 : decode cX11_claim 2 = .ok (.invokevirtual 77, 3) := by decide +kernel
theorem dX11_claim_5 : decode cX11_claim 5 = .ok (.aload_n 0, 1) := by decide +kernel
theorem dX11_claim_6 : decode cX11_claim 6 = .ok (.getfield 26, 3) := by decide +kernel
theorem dX11_claim_9 : decode cX11_claim 9 = .ok (.aload_n 0, 1) := by decide +kernel
theorem dX11_claim_10 : decode cX11_claim 10 = .ok (.getfield 37, 3) := by decide +kernel
theorem dX11_claim_13 : decode cX11_claim 13 = .ok (.iload_n 1, 1) := by decide +kernel
theorem dX11_claim_14 : decode cX11_claim 14 = .ok (.invokevirtual 136, 3) := by decide +kernel
theorem dX11_claim_17 : decode cX11_claim 17 = .ok (.aload_n 0, 1) := by decide +kernel
theorem dX11_claim_18 : decode cX11_claim 18 = .ok (.getfield 37, 3) := by decide +kernel
theorem dX11_claim_21 : decode cX11_claim 21 = .ok (.iload_n 1, 1) := by decide +kernel
theorem dX11_claim_22 : decode cX11_claim 22 = .ok (.invokevirtual 140, 3) := by decide +kernel
theorem dX11_claim_25 : decode cX11_claim 25 = .ok (.aload_n 0, 1) := by decide +kernel
theorem dX11_claim_26 : decode cX11_claim 26 = .ok (.getfield 26, 3) := by decide +kernel
theorem dX11_claim_29 : decode cX11_claim 29 = .ok (.getfield 143, 3) := by decide +kernel
theorem dX11_claim_32 : decode cX11_claim 32 = .ok (.ireturn, 1) := by decide +kernel
theorem dX11_renew_0 : decode cX11_renew 0 = .ok (.aload_n 0, 1) := by decide +kernel
theorem dX11_renew_1 : decode cX11_renew 1 = .ok (.iload_n 1, 1) := by decide +kernel
theorem dX11_renew_2 : decode cX11_renew 2 = .ok (.iload_n 2, 1) := by decide +kernel
theorem dX11_renew_3 : decode cX11_renew 3 = .ok (.iload_n 3, 1) := by decide +kernel
theorem dX11_renew_4 : decode cX11_renew 4 = .ok (.invokevirtual 146, 3) := by decide +kernel
theorem dX11_renew_7 : decode cX11_renew 7 = .ok (.astore 4, 2) := by decide +kernel
theorem dX11_renew_9 : decode cX11_renew 9 = .ok (.aload 4, 2) := by decide +kernel
theorem dX11_renew_11 : decode cX11_renew 11 = .ok (.aload_n 0, 1) := by decide +kernel
theorem dX11_renew_12 : decode cX11_renew 12 = .ok (.getfield 37, 3) := by decide +kernel
theorem dX11_renew_15 : decode cX11_renew 15 = .ok (.getfield 150, 3) := by decide +kernel
theorem dX11_renew_18 : decode cX11_renew 18 = .ok (.aload_n 0, 1) := by decide +kernel
theorem dX11_renew_19 : decode cX11_renew 19 = .ok (.getfield 37, 3) := by decide +kernel
theorem dX11_renew_22 : decode cX11_renew 22 = .ok (.getfield 153, 3) := by decide +kernel
theorem dX11_renew_25 : decode cX11_renew 25 = .ok (.iconst 0, 1) := by decide +kernel
theorem dX11_renew_26 : decode cX11_renew 26 = .ok (.iaload, 1) := by decide +kernel
theorem dX11_renew_27 : decode cX11_renew 27 = .ok (.iadd, 1) := by decide +kernel
theorem dX11_renew_28 : decode cX11_renew 28 = .ok (.putfield 157, 3) := by decide +kernel
theorem dX11_renew_31 : decode cX11_renew 31 = .ok (.aload_n 0, 1) := by decide +kernel
theorem dX11_renew_32 : decode cX11_renew 32 = .ok (.getfield 37, 3) := by decide +kernel
theorem dX11_renew_35 : decode cX11_renew 35 = .ok (.iload_n 1, 1) := by decide +kernel
theorem dX11_renew_36 : decode cX11_renew 36 = .ok (.invokevirtual 140, 3) := by decide +kernel
theorem dX11_renew_39 : decode cX11_renew 39 = .ok (.aload 4, 2) := by decide +kernel
theorem dX11_renew_41 : decode cX11_renew 41 = .ok (.getfield 157, 3) := by decide +kernel
theorem dX11_renew_44 : decode cX11_renew 44 = .ok (.ireturn, 1) := by decide +kernel
theorem dX11_finish_0 : decode cX11_finish 0 = .ok (.aload_n 0, 1) := by decide +kernel
theorem dX11_finish_1 : decode cX11_finish 1 = .ok (.iload_n 1, 1) := by decide +kernel
theorem dX11_finish_2 : decode cX11_finish 2 = .ok (.iload_n 2, 1) := by decide +kernel
theorem dX11_finish_3 : decode cX11_finish 3 = .ok (.iload_n 3, 1) := by decide +kernel
theorem dX11_finish_4 : decode cX11_finish 4 = .ok (.invokevirtual 146, 3) := by decide +kernel
theorem dX11_finish_7 : decode cX11_finish 7 = .ok (.astore 4, 2) := by decide +kernel
theorem dX11_finish_9 : decode cX11_finish 9 = .ok (.aload 4, 2) := by decide +kernel
theorem dX11_finish_11 : decode cX11_finish 11 = .ok (.iconst 2, 1) := by decide +kernel
theorem dX11_finish_12 : decode cX11_finish 12 = .ok (.putfield 162, 3) := by decide +kernel
theorem dX11_finish_15 : decode cX11_finish 15 = .ok (.aload_n 0, 1) := by decide +kernel
theorem dX11_finish_16 : decode cX11_finish 16 = .ok (.getfield 37, 3) := by decide +kernel
theorem dX11_finish_19 : decode cX11_finish 19 = .ok (.iload_n 1, 1) := by decide +kernel
theorem dX11_finish_20 : decode cX11_finish 20 = .ok (.invokevirtual 140, 3) := by decide +kernel
theorem dX11_finish_23 : decode cX11_finish 23 = .ok (.aload 4, 2) := by decide +kernel
theorem dX11_finish_25 : decode cX11_finish 25 = .ok (.getfield 165, 3) := by decide +kernel
theorem dX11_finish_28 : decode cX11_finish 28 = .ok (.ireturn, 1) := by decide +kernel
theorem dX11_fail_0 : decode cX11_fail 0 = .ok (.aload_n 0, 1) := by decide +kernel
theorem dX11_fail_1 : decode cX11_fail 1 = .ok (.iload_n 1, 1) := by decide +kernel
theorem dX11_fail_2 : decode cX11_fail 2 = .ok (.invokevirtual 77, 3) := by decide +kernel
theorem dX11_fail_5 : decode cX11_fail 5 = .ok (.aload_n 0, 1) := by decide +kernel
theorem dX11_fail_6 : decode cX11_fail 6 = .ok (.iload_n 1, 1) := by decide +kernel
theorem dX11_fail_7 : decode cX11_fail 7 = .ok (.iload_n 2, 1) := by decide +kernel
theorem dX11_fail_8 : decode cX11_fail 8 = .ok (.invokevirtual 168, 3) := by decide +kernel
theorem dX11_fail_11 : decode cX11_fail 11 = .ok (.pop, 1) := by decide +kernel
theorem dX11_fail_12 : decode cX11_fail 12 = .ok (.iload 4, 2) := by decide +kernel
theorem dX11_fail_14 : decode cX11_fail 14 = .ok (.ifCond .lt 9, 3) := by decide +kernel
theorem dX11_fail_17 : decode cX11_fail 17 = .ok (.iload 4, 2) := by decide +kernel
theorem dX11_fail_19 : decode cX11_fail 19 = .ok (.iconst 5, 1) := by decide +kernel
theorem dX11_fail_20 : decode cX11_fail 20 = .ok (.if_icmp .le 11, 3) := by decide +kernel
theorem dX11_fail_23 : decode cX11_fail 23 = .ok (.new 68, 3) := by decide +kernel
theorem dX11_fail_26 : decode cX11_fail 26 = .ok (.dup, 1) := by decide +kernel
theorem dX11_fail_27 : decode cX11_fail 27 = .ok (.invokespecial 70, 3) := by decide +kernel
theorem dX11_fail_30 : decode cX11_fail 30 = .ok (.athrow, 1) := by decide +kernel
theorem dX11_fail_31 : decode cX11_fail 31 = .ok (.aload_n 0, 1) := by decide +kernel
theorem dX11_fail_32 : decode cX11_fail 32 = .ok (.iload_n 1, 1) := by decide +kernel
theorem dX11_fail_33 : decode cX11_fail 33 = .ok (.iload_n 2, 1) := by decide +kernel
theorem dX11_fail_34 : decode cX11_fail 34 = .ok (.iload_n 3, 1) := by decide +kernel
theorem dX11_fail_35 : decode cX11_fail 35 = .ok (.invokevirtual 146, 3) := by decide +kernel
theorem dX11_fail_38 : decode cX11_fail 38 = .ok (.astore 5, 2) := by decide +kernel
theorem dX11_fail_40 : decode cX11_fail 40 = .ok (.aload_n 0, 1) := by decide +kernel
theorem dX11_fail_41 : decode cX11_fail 41 = .ok (.getfield 37, 3) := by decide +kernel
theorem dX11_fail_44 : decode cX11_fail 44 = .ok (.aload 5, 2) := by decide +kernel
theorem dX11_fail_46 : decode cX11_fail 46 = .ok (.iload_n 2, 1) := by decide +kernel
theorem dX11_fail_47 : decode cX11_fail 47 = .ok (.iload 4, 2) := by decide +kernel
theorem dX11_fail_49 : decode cX11_fail 49 = .ok (.invokevirtual 172, 3) := by decide +kernel
theorem dX11_fail_52 : decode cX11_fail 52 = .ok (.aload_n 0, 1) := by decide +kernel
theorem dX11_fail_53 : decode cX11_fail 53 = .ok (.getfield 37, 3) := by decide +kernel
theorem dX11_fail_56 : decode cX11_fail 56 = .ok (.iload_n 1, 1) := by decide +kernel
theorem dX11_fail_57 : decode cX11_fail 57 = .ok (.invokevirtual 140, 3) := by decide +kernel
theorem dX11_fail_60 : decode cX11_fail 60 = .ok (.aload 5, 2) := by decide +kernel
theorem dX11_fail_62 : decode cX11_fail 62 = .ok (.getfield 162, 3) := by decide +kernel
theorem dX11_fail_65 : decode cX11_fail 65 = .ok (.ireturn, 1) := by decide +kernel
theorem dX11_give_0 : decode cX11_give 0 = .ok (.aload_n 0, 1) := by decide +kernel
theorem dX11_give_1 : decode cX11_give 1 = .ok (.iload_n 1, 1) := by decide +kernel
theorem dX11_give_2 : decode cX11_give 2 = .ok (.iload_n 2, 1) := by decide +kernel
theorem dX11_give_3 : decode cX11_give 3 = .ok (.iload_n 3, 1) := by decide +kernel
theorem dX11_give_4 : decode cX11_give 4 = .ok (.invokevirtual 146, 3) := by decide +kernel
theorem dX11_give_7 : decode cX11_give 7 = .ok (.astore 4, 2) := by decide +kernel
theorem dX11_give_9 : decode cX11_give 9 = .ok (.aload 4, 2) := by decide +kernel
theorem dX11_give_11 : decode cX11_give 11 = .ok (.iconst 0, 1) := by decide +kernel
theorem dX11_give_12 : decode cX11_give 12 = .ok (.putfield 162, 3) := by decide +kernel
theorem dX11_give_15 : decode cX11_give 15 = .ok (.aload 4, 2) := by decide +kernel
theorem dX11_give_17 : decode cX11_give 17 = .ok (.aload_n 0, 1) := by decide +kernel
theorem dX11_give_18 : decode cX11_give 18 = .ok (.getfield 37, 3) := by decide +kernel
theorem dX11_give_21 : decode cX11_give 21 = .ok (.getfield 150, 3) := by decide +kernel
theorem dX11_give_24 : decode cX11_give 24 = .ok (.putfield 176, 3) := by decide +kernel
theorem dX11_give_27 : decode cX11_give 27 = .ok (.aload_n 0, 1) := by decide +kernel
theorem dX11_give_28 : decode cX11_give 28 = .ok (.getfield 37, 3) := by decide +kernel
theorem dX11_give_31 : decode cX11_give 31 = .ok (.iload_n 1, 1) := by decide +kernel
theorem dX11_give_32 : decode cX11_give 32 = .ok (.invokevirtual 140, 3) := by decide +kernel
theorem dX11_give_35 : decode cX11_give 35 = .ok (.aload 4, 2) := by decide +kernel
theorem dX11_give_37 : decode cX11_give 37 = .ok (.getfield 157, 3) := by decide +kernel
theorem dX11_give_40 : decode cX11_give 40 = .ok (.aload_n 0, 1) := by decide +kernel
theorem dX11_give_41 : decode cX11_give 41 = .ok (.getfield 37, 3) := by decide +kernel
theorem dX11_give_44 : decode cX11_give 44 = .ok (.getfield 150, 3) := by decide +kernel
theorem dX11_give_47 : decode cX11_give 47 = .ok (.isub, 1) := by decide +kernel
theorem dX11_give_48 : decode cX11_give 48 = .ok (.ireturn, 1) := by decide +kernel
theorem dX11_reap_0 : decode cX11_reap 0 = .ok (.aload_n 0, 1) := by decide +kernel
theorem dX11_reap_1 : decode cX11_reap 1 = .ok (.iload_n 1, 1) := by decide +kernel
theorem dX11_reap_2 : decode cX11_reap 2 = .ok (.invokevirtual 77, 3) := by decide +kernel
theorem dX11_reap_5 : decode cX11_reap 5 = .ok (.aload_n 0, 1) := by decide +kernel
theorem dX11_reap_6 : decode cX11_reap 6 = .ok (.getfield 37, 3) := by decide +kernel
theorem dX11_reap_9 : decode cX11_reap 9 = .ok (.iload_n 1, 1) := by decide +kernel
theorem dX11_reap_10 : decode cX11_reap 10 = .ok (.invokevirtual 179, 3) := by decide +kernel
theorem dX11_reap_13 : decode cX11_reap 13 = .ok (.istore_n 2, 1) := by decide +kernel
theorem dX11_reap_14 : decode cX11_reap 14 = .ok (.aload_n 0, 1) := by decide +kernel
theorem dX11_reap_15 : decode cX11_reap 15 = .ok (.getfield 37, 3) := by decide +kernel
theorem dX11_reap_18 : decode cX11_reap 18 = .ok (.iload_n 1, 1) := by decide +kernel
theorem dX11_reap_19 : decode cX11_reap 19 = .ok (.invokevirtual 140, 3) := by decide +kernel
theorem dX11_reap_22 : decode cX11_reap 22 = .ok (.iload_n 2, 1) := by decide +kernel
theorem dX11_reap_23 : decode cX11_reap 23 = .ok (.ireturn, 1) := by decide +kernel
theorem dX11_retry_0 : decode cX11_retry 0 = .ok (.aload_n 0, 1) := by decide +kernel
theorem dX11_retry_1 : decode cX11_retry 1 = .ok (.iload_n 1, 1) := by decide +kernel
theorem dX11_retry_2 : decode cX11_retry 2 = .ok (.invokevirtual 77, 3) := by decide +kernel
theorem dX11_retry_5 : decode cX11_retry 5 = .ok (.aload_n 0, 1) := by decide +kernel
theorem dX11_retry_6 : decode cX11_retry 6 = .ok (.iload_n 1, 1) := by decide +kernel
theorem dX11_retry_7 : decode cX11_retry 7 = .ok (.iload_n 2, 1) := by decide +kernel
theorem dX11_retry_8 : decode cX11_retry 8 = .ok (.invokevirtual 168, 3) := by decide +kernel
theorem dX11_retry_11 : decode cX11_retry 11 = .ok (.astore_n 3, 1) := by decide +kernel
theorem dX11_retry_12 : decode cX11_retry 12 = .ok (.aload_n 0, 1) := by decide +kernel
theorem dX11_retry_13 : decode cX11_retry 13 = .ok (.aload_n 3, 1) := by decide +kernel
theorem dX11_retry_14 : decode cX11_retry 14 = .ok (.iload_n 1, 1) := by decide +kernel
theorem dX11_retry_15 : decode cX11_retry 15 = .ok (.invokestatic 182, 3) := by decide +kernel
theorem dX11_retry_18 : decode cX11_retry 18 = .ok (.invokevirtual 109, 3) := by decide +kernel
theorem dX11_retry_21 : decode cX11_retry 21 = .ok (.aload_n 3, 1) := by decide +kernel
theorem dX11_retry_22 : decode cX11_retry 22 = .ok (.iload_n 1, 1) := by decide +kernel
theorem dX11_retry_23 : decode cX11_retry 23 = .ok (.invokevirtual 186, 3) := by decide +kernel
theorem dX11_retry_26 : decode cX11_retry 26 = .ok (.astore 4, 2) := by decide +kernel
theorem dX11_retry_28 : decode cX11_retry 28 = .ok (.aload 4, 2) := by decide +kernel
theorem dX11_retry_30 : decode cX11_retry 30 = .ok (.getfield 165, 3) := by decide +kernel
theorem dX11_retry_33 : decode cX11_retry 33 = .ok (.istore 5, 2) := by decide +kernel
theorem dX11_retry_35 : decode cX11_retry 35 = .ok (.aload 4, 2) := by decide +kernel
theorem dX11_retry_37 : decode cX11_retry 37 = .ok (.iconst 0, 1) := by decide +kernel
theorem dX11_retry_38 : decode cX11_retry 38 = .ok (.putfield 162, 3) := by decide +kernel
theorem dX11_retry_41 : decode cX11_retry 41 = .ok (.aload 4, 2) := by decide +kernel
theorem dX11_retry_43 : decode cX11_retry 43 = .ok (.iconst 0, 1) := by decide +kernel
theorem dX11_retry_44 : decode cX11_retry 44 = .ok (.putfield 165, 3) := by decide +kernel
theorem dX11_retry_47 : decode cX11_retry 47 = .ok (.aload 4, 2) := by decide +kernel
theorem dX11_retry_49 : decode cX11_retry 49 = .ok (.aload_n 0, 1) := by decide +kernel
theorem dX11_retry_50 : decode cX11_retry 50 = .ok (.getfield 37, 3) := by decide +kernel
theorem dX11_retry_53 : decode cX11_retry 53 = .ok (.getfield 150, 3) := by decide +kernel
theorem dX11_retry_56 : decode cX11_retry 56 = .ok (.putfield 176, 3) := by decide +kernel
theorem dX11_retry_59 : decode cX11_retry 59 = .ok (.aload_n 0, 1) := by decide +kernel
theorem dX11_retry_60 : decode cX11_retry 60 = .ok (.getfield 37, 3) := by decide +kernel
theorem dX11_retry_63 : decode cX11_retry 63 = .ok (.iload_n 1, 1) := by decide +kernel
theorem dX11_retry_64 : decode cX11_retry 64 = .ok (.invokevirtual 140, 3) := by decide +kernel
theorem dX11_retry_67 : decode cX11_retry 67 = .ok (.iload 5, 2) := by decide +kernel
theorem dX11_retry_69 : decode cX11_retry 69 = .ok (.ireturn, 1) := by decide +kernel
theorem dX11_bring_0 : decode cX11_bring 0 = .ok (.aload_n 0, 1) := by decide +kernel
theorem dX11_bring_1 : decode cX11_bring 1 = .ok (.iload_n 1, 1) := by decide +kernel
theorem dX11_bring_2 : decode cX11_bring 2 = .ok (.invokevirtual 77, 3) := by decide +kernel
theorem dX11_bring_5 : decode cX11_bring 5 = .ok (.aload_n 0, 1) := by decide +kernel
theorem dX11_bring_6 : decode cX11_bring 6 = .ok (.iload_n 2, 1) := by decide +kernel
theorem dX11_bring_7 : decode cX11_bring 7 = .ok (.invokevirtual 192, 3) := by decide +kernel
theorem dX11_bring_10 : decode cX11_bring 10 = .ok (.iload_n 3, 1) := by decide +kernel
theorem dX11_bring_11 : decode cX11_bring 11 = .ok (.ifCond .lt 22, 3) := by decide +kernel
theorem dX11_bring_14 : decode cX11_bring 14 = .ok (.iload_n 3, 1) := by decide +kernel
theorem dX11_bring_15 : decode cX11_bring 15 = .ok (.bipush 9, 2) := by decide +kernel
theorem dX11_bring_17 : decode cX11_bring 17 = .ok (.if_icmp .gt 16, 3) := by decide +kernel
theorem dX11_bring_20 : decode cX11_bring 20 = .ok (.iload 4, 2) := by decide +kernel
theorem dX11_bring_22 : decode cX11_bring 22 = .ok (.iconst 1, 1) := by decide +kernel
theorem dX11_bring_23 : decode cX11_bring 23 = .ok (.if_icmp .lt 10, 3) := by decide +kernel
theorem dX11_bring_26 : decode cX11_bring 26 = .ok (.iload 4, 2) := by decide +kernel
theorem dX11_bring_28 : decode cX11_bring 28 = .ok (.bipush 9, 2) := by decide +kernel
theorem dX11_bring_30 : decode cX11_bring 30 = .ok (.if_icmp .le 11, 3) := by decide +kernel
theorem dX11_bring_33 : decode cX11_bring 33 = .ok (.new 68, 3) := by decide +kernel
theorem dX11_bring_36 : decode cX11_bring 36 = .ok (.dup, 1) := by decide +kernel
theorem dX11_bring_37 : decode cX11_bring 37 = .ok (.invokespecial 70, 3) := by decide +kernel
theorem dX11_bring_40 : decode cX11_bring 40 = .ok (.athrow, 1) := by decide +kernel
theorem dX11_bring_41 : decode cX11_bring 41 = .ok (.aload_n 0, 1) := by decide +kernel
theorem dX11_bring_42 : decode cX11_bring 42 = .ok (.getfield 37, 3) := by decide +kernel
theorem dX11_bring_45 : decode cX11_bring 45 = .ok (.iload_n 2, 1) := by decide +kernel
theorem dX11_bring_46 : decode cX11_bring 46 = .ok (.iload_n 3, 1) := by decide +kernel
theorem dX11_bring_47 : decode cX11_bring 47 = .ok (.iload 4, 2) := by decide +kernel
theorem dX11_bring_49 : decode cX11_bring 49 = .ok (.invokevirtual 195, 3) := by decide +kernel
theorem dX11_bring_52 : decode cX11_bring 52 = .ok (.astore 5, 2) := by decide +kernel
theorem dX11_bring_54 : decode cX11_bring 54 = .ok (.aload 5, 2) := by decide +kernel
theorem dX11_bring_56 : decode cX11_bring 56 = .ok (.ifnonnull 11, 3) := by decide +kernel
theorem dX11_bring_59 : decode cX11_bring 59 = .ok (.new 74, 3) := by decide +kernel
theorem dX11_bring_62 : decode cX11_bring 62 = .ok (.dup, 1) := by decide +kernel
theorem dX11_bring_63 : decode cX11_bring 63 = .ok (.invokespecial 76, 3) := by decide +kernel
theorem dX11_bring_66 : decode cX11_bring 66 = .ok (.athrow, 1) := by decide +kernel
theorem dX11_bring_67 : decode cX11_bring 67 = .ok (.aload 5, 2) := by decide +kernel
theorem dX11_bring_69 : decode cX11_bring 69 = .ok (.iload_n 1, 1) := by decide +kernel
theorem dX11_bring_70 : decode cX11_bring 70 = .ok (.invokevirtual 199, 3) := by decide +kernel
theorem dX11_bring_73 : decode cX11_bring 73 = .ok (.aload_n 0, 1) := by decide +kernel
theorem dX11_bring_74 : decode cX11_bring 74 = .ok (.getfield 37, 3) := by decide +kernel
theorem dX11_bring_77 : decode cX11_bring 77 = .ok (.iload_n 1, 1) := by decide +kernel
theorem dX11_bring_78 : decode cX11_bring 78 = .ok (.invokevirtual 140, 3) := by decide +kernel
theorem dX11_bring_81 : decode cX11_bring 81 = .ok (.aload 5, 2) := by decide +kernel
theorem dX11_bring_83 : decode cX11_bring 83 = .ok (.getfield 202, 3) := by decide +kernel
theorem dX11_bring_86 : decode cX11_bring 86 = .ok (.ireturn, 1) := by decide +kernel
theorem dX11_sweep_0 : decode cX11_sweep 0 = .ok (.aload_n 0, 1) := by decide +kernel
theorem dX11_sweep_1 : decode cX11_sweep 1 = .ok (.getfield 37, 3) := by decide +kernel
theorem dX11_sweep_4 : decode cX11_sweep 4 = .ok (.invokevirtual 205, 3) := by decide +kernel
theorem dX11_sweep_7 : decode cX11_sweep 7 = .ok (.ireturn, 1) := by decide +kernel
theorem dX11_ticks_0 : decode cX11_ticks 0 = .ok (.iload_n 1, 1) := by decide +kernel
theorem dX11_ticks_1 : decode cX11_ticks 1 = .ok (.iconst 1, 1) := by decide +kernel
theorem dX11_ticks_2 : decode cX11_ticks 2 = .ok (.if_icmp .lt 9, 3) := by decide +kernel
theorem dX11_ticks_5 : decode cX11_ticks 5 = .ok (.iload_n 1, 1) := by decide +kernel
theorem dX11_ticks_6 : decode cX11_ticks 6 = .ok (.bipush 60, 2) := by decide +kernel
theorem dX11_ticks_8 : decode cX11_ticks 8 = .ok (.if_icmp .le 11, 3) := by decide +kernel
theorem dX11_ticks_11 : decode cX11_ticks 11 = .ok (.new 68, 3) := by decide +kernel
theorem dX11_ticks_14 : decode cX11_ticks 14 = .ok (.dup, 1) := by decide +kernel
theorem dX11_ticks_15 : decode cX11_ticks 15 = .ok (.invokespecial 70, 3) := by decide +kernel
theorem dX11_ticks_18 : decode cX11_ticks 18 = .ok (.athrow, 1) := by decide +kernel
theorem dX11_ticks_19 : decode cX11_ticks 19 = .ok (.aload_n 0, 1) := by decide +kernel
theorem dX11_ticks_20 : decode cX11_ticks 20 = .ok (.getfield 37, 3) := by decide +kernel
theorem dX11_ticks_23 : decode cX11_ticks 23 = .ok (.iload_n 1, 1) := by decide +kernel
theorem dX11_ticks_24 : decode cX11_ticks 24 = .ok (.invokevirtual 208, 3) := by decide +kernel
theorem dX11_ticks_27 : decode cX11_ticks 27 = .ok (.ireturn, 1) := by decide +kernel
theorem dX11_jump_0 : decode cX11_jump 0 = .ok (.iload_n 1, 1) := by decide +kernel
theorem dX11_jump_1 : decode cX11_jump 1 = .ok (.sipush (-300), 3) := by decide +kernel
theorem dX11_jump_4 : decode cX11_jump 4 = .ok (.if_icmp .lt 10, 3) := by decide +kernel
theorem dX11_jump_7 : decode cX11_jump 7 = .ok (.iload_n 1, 1) := by decide +kernel
theorem dX11_jump_8 : decode cX11_jump 8 = .ok (.sipush 300, 3) := by decide +kernel
theorem dX11_jump_11 : decode cX11_jump 11 = .ok (.if_icmp .le 11, 3) := by decide +kernel
theorem dX11_jump_14 : decode cX11_jump 14 = .ok (.new 68, 3) := by decide +kernel
theorem dX11_jump_17 : decode cX11_jump 17 = .ok (.dup, 1) := by decide +kernel
theorem dX11_jump_18 : decode cX11_jump 18 = .ok (.invokespecial 70, 3) := by decide +kernel
theorem dX11_jump_21 : decode cX11_jump 21 = .ok (.athrow, 1) := by decide +kernel
theorem dX11_jump_22 : decode cX11_jump 22 = .ok (.aload_n 0, 1) := by decide +kernel
theorem dX11_jump_23 : decode cX11_jump 23 = .ok (.getfield 37, 3) := by decide +kernel
theorem dX11_jump_26 : decode cX11_jump 26 = .ok (.iload_n 1, 1) := by decide +kernel
theorem dX11_jump_27 : decode cX11_jump 27 = .ok (.invokevirtual 211, 3) := by decide +kernel
theorem dX11_jump_30 : decode cX11_jump 30 = .ok (.ireturn, 1) := by decide +kernel
theorem dX11_job_0 : decode cX11_job 0 = .ok (.aload_n 0, 1) := by decide +kernel
theorem dX11_job_1 : decode cX11_job 1 = .ok (.iload_n 1, 1) := by decide +kernel
theorem dX11_job_2 : decode cX11_job 2 = .ok (.invokevirtual 214, 3) := by decide +kernel
theorem dX11_job_5 : decode cX11_job 5 = .ok (.aload_n 0, 1) := by decide +kernel
theorem dX11_job_6 : decode cX11_job 6 = .ok (.iload_n 1, 1) := by decide +kernel
theorem dX11_job_7 : decode cX11_job 7 = .ok (.iload_n 2, 1) := by decide +kernel
theorem dX11_job_8 : decode cX11_job 8 = .ok (.invokevirtual 168, 3) := by decide +kernel
theorem dX11_job_11 : decode cX11_job 11 = .ok (.astore 4, 2) := by decide +kernel
theorem dX11_job_13 : decode cX11_job 13 = .ok (.aload 4, 2) := by decide +kernel
theorem dX11_job_15 : decode cX11_job 15 = .ok (.iload_n 1, 1) := by decide +kernel
theorem dX11_job_16 : decode cX11_job 16 = .ok (.invokevirtual 217, 3) := by decide +kernel
theorem dX11_job_19 : decode cX11_job 19 = .ok (.astore 5, 2) := by decide +kernel
theorem dX11_job_21 : decode cX11_job 21 = .ok (.iload_n 3, 1) := by decide +kernel
theorem dX11_job_22 : decode cX11_job 22 = .ok (.tableswitch 144 0 12 #[66, 72, 78, 84, 90, 96, 102, 108, 114, 120, 126, 132, 138], 66) := by decide +kernel
theorem dX11_job_88 : decode cX11_job 88 = .ok (.aload 4, 2) := by decide +kernel
theorem dX11_job_90 : decode cX11_job 90 = .ok (.getfield 220, 3) := by decide +kernel
theorem dX11_job_93 : decode cX11_job 93 = .ok (.ireturn, 1) := by decide +kernel
theorem dX11_job_94 : decode cX11_job 94 = .ok (.aload 4, 2) := by decide +kernel
theorem dX11_job_96 : decode cX11_job 96 = .ok (.getfield 223, 3) := by decide +kernel
theorem dX11_job_99 : decode cX11_job 99 = .ok (.ireturn, 1) := by decide +kernel
theorem dX11_job_100 : decode cX11_job 100 = .ok (.aload 4, 2) := by decide +kernel
theorem dX11_job_102 : decode cX11_job 102 = .ok (.getfield 226, 3) := by decide +kernel
theorem dX11_job_105 : decode cX11_job 105 = .ok (.ireturn, 1) := by decide +kernel
theorem dX11_job_106 : decode cX11_job 106 = .ok (.aload 5, 2) := by decide +kernel
theorem dX11_job_108 : decode cX11_job 108 = .ok (.getfield 162, 3) := by decide +kernel
theorem dX11_job_111 : decode cX11_job 111 = .ok (.ireturn, 1) := by decide +kernel
theorem dX11_job_112 : decode cX11_job 112 = .ok (.aload 4, 2) := by decide +kernel
theorem dX11_job_114 : decode cX11_job 114 = .ok (.getfield 229, 3) := by decide +kernel
theorem dX11_job_117 : decode cX11_job 117 = .ok (.ireturn, 1) := by decide +kernel
theorem dX11_job_118 : decode cX11_job 118 = .ok (.aload 5, 2) := by decide +kernel
theorem dX11_job_120 : decode cX11_job 120 = .ok (.getfield 176, 3) := by decide +kernel
theorem dX11_job_123 : decode cX11_job 123 = .ok (.ireturn, 1) := by decide +kernel
theorem dX11_job_124 : decode cX11_job 124 = .ok (.aload 5, 2) := by decide +kernel
theorem dX11_job_126 : decode cX11_job 126 = .ok (.getfield 165, 3) := by decide +kernel
theorem dX11_job_129 : decode cX11_job 129 = .ok (.ireturn, 1) := by decide +kernel
theorem dX11_job_130 : decode cX11_job 130 = .ok (.aload 5, 2) := by decide +kernel
theorem dX11_job_132 : decode cX11_job 132 = .ok (.getfield 232, 3) := by decide +kernel
theorem dX11_job_135 : decode cX11_job 135 = .ok (.ireturn, 1) := by decide +kernel
theorem dX11_job_136 : decode cX11_job 136 = .ok (.aload 5, 2) := by decide +kernel
theorem dX11_job_138 : decode cX11_job 138 = .ok (.getfield 235, 3) := by decide +kernel
theorem dX11_job_141 : decode cX11_job 141 = .ok (.ireturn, 1) := by decide +kernel
theorem dX11_job_142 : decode cX11_job 142 = .ok (.aload 5, 2) := by decide +kernel
theorem dX11_job_144 : decode cX11_job 144 = .ok (.getfield 238, 3) := by decide +kernel
theorem dX11_job_147 : decode cX11_job 147 = .ok (.ireturn, 1) := by decide +kernel
theorem dX11_job_148 : decode cX11_job 148 = .ok (.aload 5, 2) := by decide +kernel
theorem dX11_job_150 : decode cX11_job 150 = .ok (.getfield 157, 3) := by decide +kernel
theorem dX11_job_153 : decode cX11_job 153 = .ok (.ireturn, 1) := by decide +kernel
theorem dX11_job_154 : decode cX11_job 154 = .ok (.aload 4, 2) := by decide +kernel
theorem dX11_job_156 : decode cX11_job 156 = .ok (.getfield 241, 3) := by decide +kernel
theorem dX11_job_159 : decode cX11_job 159 = .ok (.ireturn, 1) := by decide +kernel
theorem dX11_job_160 : decode cX11_job 160 = .ok (.aload 4, 2) := by decide +kernel
theorem dX11_job_162 : decode cX11_job 162 = .ok (.getfield 244, 3) := by decide +kernel
theorem dX11_job_165 : decode cX11_job 165 = .ok (.ireturn, 1) := by decide +kernel
theorem dX11_job_166 : decode cX11_job 166 = .ok (.new 247, 3) := by decide +kernel
theorem dX11_job_169 : decode cX11_job 169 = .ok (.dup, 1) := by decide +kernel
theorem dX11_job_170 : decode cX11_job 170 = .ok (.invokespecial 249, 3) := by decide +kernel
theorem dX11_job_173 : decode cX11_job 173 = .ok (.athrow, 1) := by decide +kernel
theorem dX11_cause_0 : decode cX11_cause 0 = .ok (.aload_n 0, 1) := by decide +kernel
theorem dX11_cause_1 : decode cX11_cause 1 = .ok (.iload_n 1, 1) := by decide +kernel
theorem dX11_cause_2 : decode cX11_cause 2 = .ok (.invokevirtual 214, 3) := by decide +kernel
theorem dX11_cause_5 : decode cX11_cause 5 = .ok (.aload_n 0, 1) := by decide +kernel
theorem dX11_cause_6 : decode cX11_cause 6 = .ok (.iload_n 1, 1) := by decide +kernel
theorem dX11_cause_7 : decode cX11_cause 7 = .ok (.iload_n 2, 1) := by decide +kernel
theorem dX11_cause_8 : decode cX11_cause 8 = .ok (.invokevirtual 168, 3) := by decide +kernel
theorem dX11_cause_11 : decode cX11_cause 11 = .ok (.iload_n 1, 1) := by decide +kernel
theorem dX11_cause_12 : decode cX11_cause 12 = .ok (.invokevirtual 217, 3) := by decide +kernel
theorem dX11_cause_15 : decode cX11_cause 15 = .ok (.iload_n 3, 1) := by decide +kernel
theorem dX11_cause_16 : decode cX11_cause 16 = .ok (.invokevirtual 250, 3) := by decide +kernel
theorem dX11_cause_19 : decode cX11_cause 19 = .ok (.ireturn, 1) := by decide +kernel
theorem dX11_locked_0 : decode cX11_locked 0 = .ok (.aload_n 0, 1) := by decide +kernel
theorem dX11_locked_1 : decode cX11_locked 1 = .ok (.iconst (-1), 1) := by decide +kernel
theorem dX11_locked_2 : decode cX11_locked 2 = .ok (.iload_n 1, 1) := by decide +kernel
theorem dX11_locked_3 : decode cX11_locked 3 = .ok (.invokevirtual 168, 3) := by decide +kernel
theorem dX11_locked_6 : decode cX11_locked 6 = .ok (.getfield 253, 3) := by decide +kernel
theorem dX11_locked_9 : decode cX11_locked 9 = .ok (.ireturn, 1) := by decide +kernel
theorem dX11_session_0 : decode cX11_session 0 = .ok (.aload_n 0, 1) := by decide +kernel
theorem dX11_session_1 : decode cX11_session 1 = .ok (.iload_n 1, 1) := by decide +kernel
theorem dX11_session_2 : decode cX11_session 2 = .ok (.invokevirtual 77, 3) := by decide +kernel
theorem dX11_session_5 : decode cX11_session 5 = .ok (.aload_n 0, 1) := by decide +kernel
theorem dX11_session_6 : decode cX11_session 6 = .ok (.getfield 37, 3) := by decide +kernel
theorem dX11_session_9 : decode cX11_session 9 = .ok (.getfield 84, 3) := by decide +kernel
theorem dX11_session_12 : decode cX11_session 12 = .ok (.iload_n 1, 1) := by decide +kernel
theorem dX11_session_13 : decode cX11_session 13 = .ok (.aaload, 1) := by decide +kernel
theorem dX11_session_14 : decode cX11_session 14 = .ok (.astore_n 3, 1) := by decide +kernel
theorem dX11_session_15 : decode cX11_session 15 = .ok (.iload_n 2, 1) := by decide +kernel
theorem dX11_session_16 : decode cX11_session 16 = .ok (.tableswitch 141 0 9 #[56, 69, 74, 83, 88, 93, 101, 111, 121, 131], 56) := by decide +kernel
theorem dX11_session_72 : decode cX11_session 72 = .ok (.aload_n 3, 1) := by decide +kernel
theorem dX11_session_73 : decode cX11_session 73 = .ok (.getfield 105, 3) := by decide +kernel
theorem dX11_session_76 : decode cX11_session 76 = .ok (.ifCond .eq 7, 3) := by decide +kernel
theorem dX11_session_79 : decode cX11_session 79 = .ok (.iconst 1, 1) := by decide +kernel
theorem dX11_session_80 : decode cX11_session 80 = .ok (.goto 4, 3) := by decide +kernel
theorem dX11_session_83 : decode cX11_session 83 = .ok (.iconst 0, 1) := by decide +kernel
theorem dX11_session_84 : decode cX11_session 84 = .ok (.ireturn, 1) := by decide +kernel
theorem dX11_session_85 : decode cX11_session 85 = .ok (.aload_n 3, 1) := by decide +kernel
theorem dX11_session_86 : decode cX11_session 86 = .ok (.getfield 116, 3) := by decide +kernel
theorem dX11_session_89 : decode cX11_session 89 = .ok (.ireturn, 1) := by decide +kernel
theorem dX11_session_90 : decode cX11_session 90 = .ok (.aload_n 0, 1) := by decide +kernel
theorem dX11_session_91 : decode cX11_session 91 = .ok (.getfield 37, 3) := by decide +kernel
theorem dX11_session_94 : decode cX11_session 94 = .ok (.iload_n 1, 1) := by decide +kernel
theorem dX11_session_95 : decode cX11_session 95 = .ok (.invokevirtual 256, 3) := by decide +kernel
theorem dX11_session_98 : decode cX11_session 98 = .ok (.ireturn, 1) := by decide +kernel
theorem dX11_session_99 : decode cX11_session 99 = .ok (.aload_n 3, 1) := by decide +kernel
theorem dX11_session_100 : decode cX11_session 100 = .ok (.getfield 259, 3) := by decide +kernel
theorem dX11_session_103 : decode cX11_session 103 = .ok (.ireturn, 1) := by decide +kernel
theorem dX11_session_104 : decode cX11_session 104 = .ok (.aload_n 3, 1) := by decide +kernel
theorem dX11_session_105 : decode cX11_session 105 = .ok (.getfield 262, 3) := by decide +kernel
theorem dX11_session_108 : decode cX11_session 108 = .ok (.ireturn, 1) := by decide +kernel
theorem dX11_session_109 : decode cX11_session 109 = .ok (.aload_n 3, 1) := by decide +kernel
theorem dX11_session_110 : decode cX11_session 110 = .ok (.getfield 88, 3) := by decide +kernel
theorem dX11_session_113 : decode cX11_session 113 = .ok (.getfield 96, 3) := by decide +kernel
theorem dX11_session_116 : decode cX11_session 116 = .ok (.ireturn, 1) := by decide +kernel
theorem dX11_session_117 : decode cX11_session 117 = .ok (.aload_n 0, 1) := by decide +kernel
theorem dX11_session_118 : decode cX11_session 118 = .ok (.getfield 37, 3) := by decide +kernel
theorem dX11_session_121 : decode cX11_session 121 = .ok (.iload_n 1, 1) := by decide +kernel
theorem dX11_session_122 : decode cX11_session 122 = .ok (.iconst 0, 1) := by decide +kernel
theorem dX11_session_123 : decode cX11_session 123 = .ok (.invokevirtual 265, 3) := by decide +kernel
theorem dX11_session_126 : decode cX11_session 126 = .ok (.ireturn, 1) := by decide +kernel
theorem dX11_session_127 : decode cX11_session 127 = .ok (.aload_n 0, 1) := by decide +kernel
theorem dX11_session_128 : decode cX11_session 128 = .ok (.getfield 37, 3) := by decide +kernel
theorem dX11_session_131 : decode cX11_session 131 = .ok (.iload_n 1, 1) := by decide +kernel
theorem dX11_session_132 : decode cX11_session 132 = .ok (.iconst 1, 1) := by decide +kernel
theorem dX11_session_133 : decode cX11_session 133 = .ok (.invokevirtual 265, 3) := by decide +kernel
theorem dX11_session_136 : decode cX11_session 136 = .ok (.ireturn, 1) := by decide +kernel
theorem dX11_session_137 : decode cX11_session 137 = .ok (.aload_n 0, 1) := by decide +kernel
theorem dX11_session_138 : decode cX11_session 138 = .ok (.getfield 37, 3) := by decide +kernel
theorem dX11_session_141 : decode cX11_session 141 = .ok (.iload_n 1, 1) := by decide +kernel
theorem dX11_session_142 : decode cX11_session 142 = .ok (.iconst 2, 1) := by decide +kernel
theorem dX11_session_143 : decode cX11_session 143 = .ok (.invokevirtual 265, 3) := by decide +kernel
theorem dX11_session_146 : decode cX11_session 146 = .ok (.ireturn, 1) := by decide +kernel
theorem dX11_session_147 : decode cX11_session 147 = .ok (.aload_n 0, 1) := by decide +kernel
theorem dX11_session_148 : decode cX11_session 148 = .ok (.getfield 37, 3) := by decide +kernel
theorem dX11_session_151 : decode cX11_session 151 = .ok (.iload_n 1, 1) := by decide +kernel
theorem dX11_session_152 : decode cX11_session 152 = .ok (.iconst 3, 1) := by decide +kernel
theorem dX11_session_153 : decode cX11_session 153 = .ok (.invokevirtual 265, 3) := by decide +kernel
theorem dX11_session_156 : decode cX11_session 156 = .ok (.ireturn, 1) := by decide +kernel
theorem dX11_session_157 : decode cX11_session 157 = .ok (.new 247, 3) := by decide +kernel
theorem dX11_session_160 : decode cX11_session 160 = .ok (.dup, 1) := by decide +kernel
theorem dX11_session_161 : decode cX11_session 161 = .ok (.invokespecial 249, 3) := by decide +kernel
theorem dX11_session_164 : decode cX11_session 164 = .ok (.athrow, 1) := by decide +kernel
theorem dX11_plan_0 : decode cX11_plan 0 = .ok (.iload_n 1, 1) := by decide +kernel
theorem dX11_plan_1 : decode cX11_plan 1 = .ok (.ifCond .lt 14, 3) := by decide +kernel
theorem dX11_plan_4 : decode cX11_plan 4 = .ok (.iload_n 1, 1) := by decide +kernel
theorem dX11_plan_5 : decode cX11_plan 5 = .ok (.aload_n 0, 1) := by decide +kernel
theorem dX11_plan_6 : decode cX11_plan 6 = .ok (.getfield 37, 3) := by decide +kernel
theorem dX11_plan_9 : decode cX11_plan 9 = .ok (.getfield 268, 3) := by decide +kernel
theorem dX11_plan_12 : decode cX11_plan 12 = .ok (.if_icmp .lt 11, 3) := by decide +kernel
theorem dX11_plan_15 : decode cX11_plan 15 = .ok (.new 271, 3) := by decide +kernel
theorem dX11_plan_18 : decode cX11_plan 18 = .ok (.dup, 1) := by decide +kernel
theorem dX11_plan_19 : decode cX11_plan 19 = .ok (.invokespecial 273, 3) := by decide +kernel
theorem dX11_plan_22 : decode cX11_plan 22 = .ok (.athrow, 1) := by decide +kernel
theorem dX11_plan_23 : decode cX11_plan 23 = .ok (.aload_n 0, 1) := by decide +kernel
theorem dX11_plan_24 : decode cX11_plan 24 = .ok (.getfield 37, 3) := by decide +kernel
theorem dX11_plan_27 : decode cX11_plan 27 = .ok (.getfield 274, 3) := by decide +kernel
theorem dX11_plan_30 : decode cX11_plan 30 = .ok (.iload_n 1, 1) := by decide +kernel
theorem dX11_plan_31 : decode cX11_plan 31 = .ok (.aaload, 1) := by decide +kernel
theorem dX11_plan_32 : decode cX11_plan 32 = .ok (.astore_n 3, 1) := by decide +kernel
theorem dX11_plan_33 : decode cX11_plan 33 = .ok (.iload_n 2, 1) := by decide +kernel
theorem dX11_plan_34 : decode cX11_plan 34 = .ok (.tableswitch 74 0 5 #[38, 43, 48, 53, 58, 63], 38) := by decide +kernel
theorem dX11_plan_72 : decode cX11_plan 72 = .ok (.aload_n 3, 1) := by decide +kernel
theorem dX11_plan_73 : decode cX11_plan 73 = .ok (.getfield 278, 3) := by decide +kernel
theorem dX11_plan_76 : decode cX11_plan 76 = .ok (.ireturn, 1) := by decide +kernel
theorem dX11_plan_77 : decode cX11_plan 77 = .ok (.aload_n 3, 1) := by decide +kernel
theorem dX11_plan_78 : decode cX11_plan 78 = .ok (.getfield 283, 3) := by decide +kernel
theorem dX11_plan_81 : decode cX11_plan 81 = .ok (.ireturn, 1) := by decide +kernel
theorem dX11_plan_82 : decode cX11_plan 82 = .ok (.aload_n 3, 1) := by decide +kernel
theorem dX11_plan_83 : decode cX11_plan 83 = .ok (.getfield 286, 3) := by decide +kernel
theorem dX11_plan_86 : decode cX11_plan 86 = .ok (.ireturn, 1) := by decide +kernel
theorem dX11_plan_87 : decode cX11_plan 87 = .ok (.aload_n 3, 1) := by decide +kernel
theorem dX11_plan_88 : decode cX11_plan 88 = .ok (.getfield 289, 3) := by decide +kernel
theorem dX11_plan_91 : decode cX11_plan 91 = .ok (.ireturn, 1) := by decide +kernel
theorem dX11_plan_92 : decode cX11_plan 92 = .ok (.aload_n 3, 1) := by decide +kernel
theorem dX11_plan_93 : decode cX11_plan 93 = .ok (.getfield 292, 3) := by decide +kernel
theorem dX11_plan_96 : decode cX11_plan 96 = .ok (.ireturn, 1) := by decide +kernel
theorem dX11_plan_97 : decode cX11_plan 97 = .ok (.aload_n 3, 1) := by decide +kernel
theorem dX11_plan_98 : decode cX11_plan 98 = .ok (.aload_n 3, 1) := by decide +kernel
theorem dX11_plan_99 : decode cX11_plan 99 = .ok (.getfield 292, 3) := by decide +kernel
theorem dX11_plan_102 : decode cX11_plan 102 = .ok (.iconst 1, 1) := by decide +kernel
theorem dX11_plan_103 : decode cX11_plan 103 = .ok (.iadd, 1) := by decide +kernel
theorem dX11_plan_104 : decode cX11_plan 104 = .ok (.invokevirtual 293, 3) := by decide +kernel
theorem dX11_plan_107 : decode cX11_plan 107 = .ok (.ireturn, 1) := by decide +kernel
theorem dX11_plan_108 : decode cX11_plan 108 = .ok (.new 247, 3) := by decide +kernel
theorem dX11_plan_111 : decode cX11_plan 111 = .ok (.dup, 1) := by decide +kernel
theorem dX11_plan_112 : decode cX11_plan 112 = .ok (.invokespecial 249, 3) := by decide +kernel
theorem dX11_plan_115 : decode cX11_plan 115 = .ok (.athrow, 1) := by decide +kernel
theorem dX11_may_0 : decode cX11_may 0 = .ok (.aload_n 0, 1) := by decide +kernel
theorem dX11_may_1 : decode cX11_may 1 = .ok (.iload_n 1, 1) := by decide +kernel
theorem dX11_may_2 : decode cX11_may 2 = .ok (.invokevirtual 77, 3) := by decide +kernel
theorem dX11_may_5 : decode cX11_may 5 = .ok (.aload_n 0, 1) := by decide +kernel
theorem dX11_may_6 : decode cX11_may 6 = .ok (.getfield 37, 3) := by decide +kernel
theorem dX11_may_9 : decode cX11_may 9 = .ok (.aload_n 0, 1) := by decide +kernel
theorem dX11_may_10 : decode cX11_may 10 = .ok (.iload_n 1, 1) := by decide +kernel
theorem dX11_may_11 : decode cX11_may 11 = .ok (.iload_n 2, 1) := by decide +kernel
theorem dX11_may_12 : decode cX11_may 12 = .ok (.invokevirtual 168, 3) := by decide +kernel
theorem dX11_may_15 : decode cX11_may 15 = .ok (.iload_n 1, 1) := by decide +kernel
theorem dX11_may_16 : decode cX11_may 16 = .ok (.invokestatic 296, 3) := by decide +kernel
theorem dX11_may_19 : decode cX11_may 19 = .ok (.ifCond .ne 7, 3) := by decide +kernel
theorem dX11_may_22 : decode cX11_may 22 = .ok (.iconst 1, 1) := by decide +kernel
theorem dX11_may_23 : decode cX11_may 23 = .ok (.goto 4, 3) := by decide +kernel
theorem dX11_may_26 : decode cX11_may 26 = .ok (.iconst 0, 1) := by decide +kernel
theorem dX11_may_27 : decode cX11_may 27 = .ok (.ireturn, 1) := by decide +kernel
theorem dX11_next_0 : decode cX11_next 0 = .ok (.aload_n 0, 1) := by decide +kernel
theorem dX11_next_1 : decode cX11_next 1 = .ok (.iload_n 1, 1) := by decide +kernel
theorem dX11_next_2 : decode cX11_next 2 = .ok (.invokevirtual 77, 3) := by decide +kernel
theorem dX11_next_5 : decode cX11_next 5 = .ok (.aload_n 0, 1) := by decide +kernel
theorem dX11_next_6 : decode cX11_next 6 = .ok (.getfield 40, 3) := by decide +kernel
theorem dX11_next_9 : decode cX11_next 9 = .ok (.aload_n 0, 1) := by decide +kernel
theorem dX11_next_10 : decode cX11_next 10 = .ok (.getfield 37, 3) := by decide +kernel
theorem dX11_next_13 : decode cX11_next 13 = .ok (.invokevirtual 58, 3) := by decide +kernel
theorem dX11_next_16 : decode cX11_next 16 = .ok (.aload_n 0, 1) := by decide +kernel
theorem dX11_next_17 : decode cX11_next 17 = .ok (.getfield 26, 3) := by decide +kernel
theorem dX11_next_20 : decode cX11_next 20 = .ok (.aload_n 0, 1) := by decide +kernel
theorem dX11_next_21 : decode cX11_next 21 = .ok (.getfield 40, 3) := by decide +kernel
theorem dX11_next_24 : decode cX11_next 24 = .ok (.iload_n 1, 1) := by decide +kernel
theorem dX11_next_25 : decode cX11_next 25 = .ok (.invokevirtual 136, 3) := by decide +kernel
theorem dX11_next_28 : decode cX11_next 28 = .ok (.aload_n 0, 1) := by decide +kernel
theorem dX11_next_29 : decode cX11_next 29 = .ok (.getfield 26, 3) := by decide +kernel
theorem dX11_next_32 : decode cX11_next 32 = .ok (.iload_n 2, 1) := by decide +kernel
theorem dX11_next_33 : decode cX11_next 33 = .ok (.invokevirtual 300, 3) := by decide +kernel
theorem dX11_next_36 : decode cX11_next 36 = .ok (.ireturn, 1) := by decide +kernel
theorem dX11_bar_0 : decode cX11_bar 0 = .ok (.aload_n 0, 1) := by decide +kernel
theorem dX11_bar_1 : decode cX11_bar 1 = .ok (.iload_n 1, 1) := by decide +kernel
theorem dX11_bar_2 : decode cX11_bar 2 = .ok (.invokevirtual 77, 3) := by decide +kernel
theorem dX11_bar_5 : decode cX11_bar 5 = .ok (.aload_n 0, 1) := by decide +kernel
theorem dX11_bar_6 : decode cX11_bar 6 = .ok (.iload_n 1, 1) := by decide +kernel
theorem dX11_bar_7 : decode cX11_bar 7 = .ok (.iload_n 2, 1) := by decide +kernel
theorem dX11_bar_8 : decode cX11_bar 8 = .ok (.invokevirtual 168, 3) := by decide +kernel
theorem dX11_bar_11 : decode cX11_bar 11 = .ok (.astore_n 3, 1) := by decide +kernel
theorem dX11_bar_12 : decode cX11_bar 12 = .ok (.aload_n 0, 1) := by decide +kernel
theorem dX11_bar_13 : decode cX11_bar 13 = .ok (.getfield 40, 3) := by decide +kernel
theorem dX11_bar_16 : decode cX11_bar 16 = .ok (.aload_n 0, 1) := by decide +kernel
theorem dX11_bar_17 : decode cX11_bar 17 = .ok (.getfield 37, 3) := by decide +kernel
theorem dX11_bar_20 : decode cX11_bar 20 = .ok (.invokevirtual 58, 3) := by decide +kernel
theorem dX11_bar_23 : decode cX11_bar 23 = .ok (.aload_n 0, 1) := by decide +kernel
theorem dX11_bar_24 : decode cX11_bar 24 = .ok (.getfield 26, 3) := by decide +kernel
theorem dX11_bar_27 : decode cX11_bar 27 = .ok (.aload_n 0, 1) := by decide +kernel
theorem dX11_bar_28 : decode cX11_bar 28 = .ok (.getfield 40, 3) := by decide +kernel
theorem dX11_bar_31 : decode cX11_bar 31 = .ok (.iload_n 1, 1) := by decide +kernel
theorem dX11_bar_32 : decode cX11_bar 32 = .ok (.invokevirtual 136, 3) := by decide +kernel
theorem dX11_bar_35 : decode cX11_bar 35 = .ok (.aload_n 0, 1) := by decide +kernel
theorem dX11_bar_36 : decode cX11_bar 36 = .ok (.getfield 26, 3) := by decide +kernel
theorem dX11_bar_39 : decode cX11_bar 39 = .ok (.iload_n 2, 1) := by decide +kernel
theorem dX11_bar_40 : decode cX11_bar 40 = .ok (.invokevirtual 303, 3) := by decide +kernel
theorem dX11_bar_43 : decode cX11_bar 43 = .ok (.ifCond .eq 7, 3) := by decide +kernel
theorem dX11_bar_46 : decode cX11_bar 46 = .ok (.iconst 0, 1) := by decide +kernel
theorem dX11_bar_47 : decode cX11_bar 47 = .ok (.goto 12, 3) := by decide +kernel
theorem dX11_bar_50 : decode cX11_bar 50 = .ok (.aload_n 0, 1) := by decide +kernel
theorem dX11_bar_51 : decode cX11_bar 51 = .ok (.getfield 37, 3) := by decide +kernel
theorem dX11_bar_54 : decode cX11_bar 54 = .ok (.aload_n 3, 1) := by decide +kernel
theorem dX11_bar_55 : decode cX11_bar 55 = .ok (.iload_n 1, 1) := by decide +kernel
theorem dX11_bar_56 : decode cX11_bar 56 = .ok (.invokestatic 307, 3) := by decide +kernel
theorem dX11_bar_59 : decode cX11_bar 59 = .ok (.ireturn, 1) := by decide +kernel
theorem dX11_race_0 : decode cX11_race 0 = .ok (.aload_n 0, 1) := by decide +kernel
theorem dX11_race_1 : decode cX11_race 1 = .ok (.iload_n 1, 1) := by decide +kernel
theorem dX11_race_2 : decode cX11_race 2 = .ok (.invokevirtual 77, 3) := by decide +kernel
theorem dX11_race_5 : decode cX11_race 5 = .ok (.aload_n 0, 1) := by decide +kernel
theorem dX11_race_6 : decode cX11_race 6 = .ok (.iload_n 2, 1) := by decide +kernel
theorem dX11_race_7 : decode cX11_race 7 = .ok (.invokevirtual 77, 3) := by decide +kernel
theorem dX11_race_10 : decode cX11_race 10 = .ok (.iload_n 1, 1) := by decide +kernel
theorem dX11_race_11 : decode cX11_race 11 = .ok (.iload_n 2, 1) := by decide +kernel
theorem dX11_race_12 : decode cX11_race 12 = .ok (.if_icmp .ne 11, 3) := by decide +kernel
theorem dX11_race_15 : decode cX11_race 15 = .ok (.new 68, 3) := by decide +kernel
theorem dX11_race_18 : decode cX11_race 18 = .ok (.dup, 1) := by decide +kernel
theorem dX11_race_19 : decode cX11_race 19 = .ok (.invokespecial 70, 3) := by decide +kernel
theorem dX11_race_22 : decode cX11_race 22 = .ok (.athrow, 1) := by decide +kernel
theorem dX11_race_23 : decode cX11_race 23 = .ok (.aload_n 0, 1) := by decide +kernel
theorem dX11_race_24 : decode cX11_race 24 = .ok (.getfield 26, 3) := by decide +kernel
theorem dX11_race_27 : decode cX11_race 27 = .ok (.invokevirtual 310, 3) := by decide +kernel
theorem dX11_race_30 : decode cX11_race 30 = .ok (.aload_n 0, 1) := by decide +kernel
theorem dX11_race_31 : decode cX11_race 31 = .ok (.iload_n 1, 1) := by decide +kernel
theorem dX11_race_32 : decode cX11_race 32 = .ok (.iload_n 2, 1) := by decide +kernel
theorem dX11_race_33 : decode cX11_race 33 = .ok (.invokevirtual 313, 3) := by decide +kernel
theorem dX11_race_36 : decode cX11_race 36 = .ok (.aload_n 0, 1) := by decide +kernel
theorem dX11_race_37 : decode cX11_race 37 = .ok (.getfield 26, 3) := by decide +kernel
theorem dX11_race_40 : decode cX11_race 40 = .ok (.invokevirtual 317, 3) := by decide +kernel
theorem dX11_race_43 : decode cX11_race 43 = .ok (.aload_n 0, 1) := by decide +kernel
theorem dX11_race_44 : decode cX11_race 44 = .ok (.iload_n 2, 1) := by decide +kernel
theorem dX11_race_45 : decode cX11_race 45 = .ok (.iload_n 1, 1) := by decide +kernel
theorem dX11_race_46 : decode cX11_race 46 = .ok (.invokevirtual 313, 3) := by decide +kernel
theorem dX11_race_49 : decode cX11_race 49 = .ok (.aload_n 0, 1) := by decide +kernel
theorem dX11_race_50 : decode cX11_race 50 = .ok (.getfield 26, 3) := by decide +kernel
theorem dX11_race_53 : decode cX11_race 53 = .ok (.invokevirtual 320, 3) := by decide +kernel
theorem dX11_race_56 : decode cX11_race 56 = .ok (.ireturn, 1) := by decide +kernel
theorem dX11_passed_0 : decode cX11_passed 0 = .ok (.aload_n 0, 1) := by decide +kernel
theorem dX11_passed_1 : decode cX11_passed 1 = .ok (.iload_n 1, 1) := by decide +kernel
theorem dX11_passed_2 : decode cX11_passed 2 = .ok (.invokevirtual 77, 3) := by decide +kernel
theorem dX11_passed_5 : decode cX11_passed 5 = .ok (.aload_n 0, 1) := by decide +kernel
theorem dX11_passed_6 : decode cX11_passed 6 = .ok (.iload_n 1, 1) := by decide +kernel
theorem dX11_passed_7 : decode cX11_passed 7 = .ok (.iload_n 2, 1) := by decide +kernel
theorem dX11_passed_8 : decode cX11_passed 8 = .ok (.invokevirtual 168, 3) := by decide +kernel
theorem dX11_passed_11 : decode cX11_passed 11 = .ok (.pop, 1) := by decide +kernel
theorem dX11_passed_12 : decode cX11_passed 12 = .ok (.aload_n 0, 1) := by decide +kernel
theorem dX11_passed_13 : decode cX11_passed 13 = .ok (.getfield 40, 3) := by decide +kernel
theorem dX11_passed_16 : decode cX11_passed 16 = .ok (.aload_n 0, 1) := by decide +kernel
theorem dX11_passed_17 : decode cX11_passed 17 = .ok (.getfield 37, 3) := by decide +kernel
theorem dX11_passed_20 : decode cX11_passed 20 = .ok (.invokevirtual 58, 3) := by decide +kernel
theorem dX11_passed_23 : decode cX11_passed 23 = .ok (.aload_n 0, 1) := by decide +kernel
theorem dX11_passed_24 : decode cX11_passed 24 = .ok (.getfield 40, 3) := by decide +kernel
theorem dX11_passed_27 : decode cX11_passed 27 = .ok (.iload_n 1, 1) := by decide +kernel
theorem dX11_passed_28 : decode cX11_passed 28 = .ok (.iload_n 2, 1) := by decide +kernel
theorem dX11_passed_29 : decode cX11_passed 29 = .ok (.invokestatic 323, 3) := by decide +kernel
theorem dX11_passed_32 : decode cX11_passed 32 = .ok (.ireturn, 1) := by decide +kernel
theorem dX11_again_0 : decode cX11_again 0 = .ok (.aload_n 0, 1) := by decide +kernel
theorem dX11_again_1 : decode cX11_again 1 = .ok (.iload_n 1, 1) := by decide +kernel
theorem dX11_again_2 : decode cX11_again 2 = .ok (.invokevirtual 214, 3) := by decide +kernel
theorem dX11_again_5 : decode cX11_again 5 = .ok (.aload_n 0, 1) := by decide +kernel
theorem dX11_again_6 : decode cX11_again 6 = .ok (.iload_n 1, 1) := by decide +kernel
theorem dX11_again_7 : decode cX11_again 7 = .ok (.iload_n 2, 1) := by decide +kernel
theorem dX11_again_8 : decode cX11_again 8 = .ok (.invokevirtual 168, 3) := by decide +kernel
theorem dX11_again_11 : decode cX11_again 11 = .ok (.astore 4, 2) := by decide +kernel
theorem dX11_again_13 : decode cX11_again 13 = .ok (.aload_n 0, 1) := by decide +kernel
theorem dX11_again_14 : decode cX11_again 14 = .ok (.getfield 37, 3) := by decide +kernel
theorem dX11_again_17 : decode cX11_again 17 = .ok (.aload 4, 2) := by decide +kernel
theorem dX11_again_19 : decode cX11_again 19 = .ok (.iload_n 1, 1) := by decide +kernel
theorem dX11_again_20 : decode cX11_again 20 = .ok (.invokevirtual 217, 3) := by decide +kernel
theorem dX11_again_23 : decode cX11_again 23 = .ok (.iload_n 2, 1) := by decide +kernel
theorem dX11_again_24 : decode cX11_again 24 = .ok (.iload_n 3, 1) := by decide +kernel
theorem dX11_again_25 : decode cX11_again 25 = .ok (.invokevirtual 327, 3) := by decide +kernel
theorem dX11_again_28 : decode cX11_again 28 = .ok (.ireturn, 1) := by decide +kernel
theorem dX11_would_0 : decode cX11_would 0 = .ok (.iload_n 1, 1) := by decide +kernel
theorem dX11_would_1 : decode cX11_would 1 = .ok (.ifCond .lt 9, 3) := by decide +kernel
theorem dX11_would_4 : decode cX11_would 4 = .ok (.iload_n 1, 1) := by decide +kernel
theorem dX11_would_5 : decode cX11_would 5 = .ok (.bipush 60, 2) := by decide +kernel
theorem dX11_would_7 : decode cX11_would 7 = .ok (.if_icmp .le 11, 3) := by decide +kernel
theorem dX11_would_10 : decode cX11_would 10 = .ok (.new 68, 3) := by decide +kernel
theorem dX11_would_13 : decode cX11_would 13 = .ok (.dup, 1) := by decide +kernel
theorem dX11_would_14 : decode cX11_would 14 = .ok (.invokespecial 70, 3) := by decide +kernel
theorem dX11_would_17 : decode cX11_would 17 = .ok (.athrow, 1) := by decide +kernel
theorem dX11_would_18 : decode cX11_would 18 = .ok (.aload_n 0, 1) := by decide +kernel
theorem dX11_would_19 : decode cX11_would 19 = .ok (.getfield 40, 3) := by decide +kernel
theorem dX11_would_22 : decode cX11_would 22 = .ok (.aload_n 0, 1) := by decide +kernel
theorem dX11_would_23 : decode cX11_would 23 = .ok (.getfield 37, 3) := by decide +kernel
theorem dX11_would_26 : decode cX11_would 26 = .ok (.invokevirtual 58, 3) := by decide +kernel
theorem dX11_would_29 : decode cX11_would 29 = .ok (.iload_n 2, 1) := by decide +kernel
theorem dX11_would_30 : decode cX11_would 30 = .ok (.ifCond .eq 14, 3) := by decide +kernel
theorem dX11_would_33 : decode cX11_would 33 = .ok (.aload_n 0, 1) := by decide +kernel
theorem dX11_would_34 : decode cX11_would 34 = .ok (.getfield 40, 3) := by decide +kernel
theorem dX11_would_37 : decode cX11_would 37 = .ok (.iload_n 1, 1) := by decide +kernel
theorem dX11_would_38 : decode cX11_would 38 = .ok (.invokevirtual 211, 3) := by decide +kernel
theorem dX11_would_41 : decode cX11_would 41 = .ok (.goto 11, 3) := by decide +kernel
theorem dX11_would_44 : decode cX11_would 44 = .ok (.aload_n 0, 1) := by decide +kernel
theorem dX11_would_45 : decode cX11_would 45 = .ok (.getfield 40, 3) := by decide +kernel
theorem dX11_would_48 : decode cX11_would 48 = .ok (.iload_n 1, 1) := by decide +kernel
theorem dX11_would_49 : decode cX11_would 49 = .ok (.invokevirtual 208, 3) := by decide +kernel
theorem dX11_would_52 : decode cX11_would 52 = .ok (.ireturn, 1) := by decide +kernel
theorem dX11_work_0 : decode cX11_work 0 = .ok (.iload_n 1, 1) := by decide +kernel
theorem dX11_work_1 : decode cX11_work 1 = .ok (.iconst 1, 1) := by decide +kernel
theorem dX11_work_2 : decode cX11_work 2 = .ok (.if_icmp .lt 8, 3) := by decide +kernel
theorem dX11_work_5 : decode cX11_work 5 = .ok (.iload_n 1, 1) := by decide +kernel
theorem dX11_work_6 : decode cX11_work 6 = .ok (.iconst 4, 1) := by decide +kernel
theorem dX11_work_7 : decode cX11_work 7 = .ok (.if_icmp .le 11, 3) := by decide +kernel
theorem dX11_work_10 : decode cX11_work 10 = .ok (.new 68, 3) := by decide +kernel
theorem dX11_work_13 : decode cX11_work 13 = .ok (.dup, 1) := by decide +kernel
theorem dX11_work_14 : decode cX11_work 14 = .ok (.invokespecial 70, 3) := by decide +kernel
theorem dX11_work_17 : decode cX11_work 17 = .ok (.athrow, 1) := by decide +kernel
theorem dX11_work_18 : decode cX11_work 18 = .ok (.iload_n 2, 1) := by decide +kernel
theorem dX11_work_19 : decode cX11_work 19 = .ok (.iconst (-1), 1) := by decide +kernel
theorem dX11_work_20 : decode cX11_work 20 = .ok (.if_icmp .eq 10, 3) := by decide +kernel
theorem dX11_work_23 : decode cX11_work 23 = .ok (.aload_n 0, 1) := by decide +kernel
theorem dX11_work_24 : decode cX11_work 24 = .ok (.iconst (-1), 1) := by decide +kernel
theorem dX11_work_25 : decode cX11_work 25 = .ok (.iload_n 2, 1) := by decide +kernel
theorem dX11_work_26 : decode cX11_work 26 = .ok (.invokevirtual 168, 3) := by decide +kernel
theorem dX11_work_29 : decode cX11_work 29 = .ok (.pop, 1) := by decide +kernel
theorem dX11_work_30 : decode cX11_work 30 = .ok (.aload_n 0, 1) := by decide +kernel
theorem dX11_work_31 : decode cX11_work 31 = .ok (.getfield 40, 3) := by decide +kernel
theorem dX11_work_34 : decode cX11_work 34 = .ok (.aload_n 0, 1) := by decide +kernel
theorem dX11_work_35 : decode cX11_work 35 = .ok (.getfield 37, 3) := by decide +kernel
theorem dX11_work_38 : decode cX11_work 38 = .ok (.invokevirtual 58, 3) := by decide +kernel
theorem dX11_work_41 : decode cX11_work 41 = .ok (.aload_n 0, 1) := by decide +kernel
theorem dX11_work_42 : decode cX11_work 42 = .ok (.getfield 40, 3) := by decide +kernel
theorem dX11_work_45 : decode cX11_work 45 = .ok (.iload_n 1, 1) := by decide +kernel
theorem dX11_work_46 : decode cX11_work 46 = .ok (.iload_n 2, 1) := by decide +kernel
theorem dX11_work_47 : decode cX11_work 47 = .ok (.invokestatic 331, 3) := by decide +kernel
theorem dX11_work_50 : decode cX11_work 50 = .ok (.ireturn, 1) := by decide +kernel
theorem dX11_was_0 : decode cX11_was 0 = .ok (.aload_n 0, 1) := by decide +kernel
theorem dX11_was_1 : decode cX11_was 1 = .ok (.iconst (-1), 1) := by decide +kernel
theorem dX11_was_2 : decode cX11_was 2 = .ok (.iload_n 1, 1) := by decide +kernel
theorem dX11_was_3 : decode cX11_was 3 = .ok (.invokevirtual 168, 3) := by decide +kernel
theorem dX11_was_6 : decode cX11_was 6 = .ok (.pop, 1) := by decide +kernel
theorem dX11_was_7 : decode cX11_was 7 = .ok (.aload_n 0, 1) := by decide +kernel
theorem dX11_was_8 : decode cX11_was 8 = .ok (.getfield 37, 3) := by decide +kernel
theorem dX11_was_11 : decode cX11_was 11 = .ok (.getfield 335, 3) := by decide +kernel
theorem dX11_was_14 : decode cX11_was 14 = .ok (.iload_n 1, 1) := by decide +kernel
theorem dX11_was_15 : decode cX11_was 15 = .ok (.iload_n 2, 1) := by decide +kernel
theorem dX11_was_16 : decode cX11_was 16 = .ok (.invokevirtual 339, 3) := by decide +kernel
theorem dX11_was_19 : decode cX11_was 19 = .ok (.ireturn, 1) := by decide +kernel
theorem dX11_longest_0 : decode cX11_longest 0 = .ok (.aload_n 0, 1) := by decide +kernel
theorem dX11_longest_1 : decode cX11_longest 1 = .ok (.getfield 37, 3) := by decide +kernel
theorem dX11_longest_4 : decode cX11_longest 4 = .ok (.getfield 335, 3) := by decide +kernel
theorem dX11_longest_7 : decode cX11_longest 7 = .ok (.invokevirtual 344, 3) := by decide +kernel
theorem dX11_longest_10 : decode cX11_longest 10 = .ok (.ireturn, 1) := by decide +kernel
theorem dX11_overtaken_0 : decode cX11_overtaken 0 = .ok (.aload_n 0, 1) := by decide +kernel
theorem dX11_overtaken_1 : decode cX11_overtaken 1 = .ok (.iload_n 1, 1) := by decide +kernel
theorem dX11_overtaken_2 : decode cX11_overtaken 2 = .ok (.invokevirtual 192, 3) := by decide +kernel
theorem dX11_overtaken_5 : decode cX11_overtaken 5 = .ok (.aload_n 0, 1) := by decide +kernel
theorem dX11_overtaken_6 : decode cX11_overtaken 6 = .ok (.getfield 37, 3) := by decide +kernel
theorem dX11_overtaken_9 : decode cX11_overtaken 9 = .ok (.iload_n 1, 1) := by decide +kernel
theorem dX11_overtaken_10 : decode cX11_overtaken 10 = .ok (.invokevirtual 347, 3) := by decide +kernel
theorem dX11_overtaken_13 : decode cX11_overtaken 13 = .ok (.ireturn, 1) := by decide +kernel
theorem dX11_alike_0 : decode cX11_alike 0 = .ok (.aload_n 0, 1) := by decide +kernel
theorem dX11_alike_1 : decode cX11_alike 1 = .ok (.iconst (-1), 1) := by decide +kernel
theorem dX11_alike_2 : decode cX11_alike 2 = .ok (.iload_n 1, 1) := by decide +kernel
theorem dX11_alike_3 : decode cX11_alike 3 = .ok (.invokevirtual 168, 3) := by decide +kernel
theorem dX11_alike_6 : decode cX11_alike 6 = .ok (.getfield 350, 3) := by decide +kernel
theorem dX11_alike_9 : decode cX11_alike 9 = .ok (.astore_n 3, 1) := by decide +kernel
theorem dX11_alike_10 : decode cX11_alike 10 = .ok (.aload_n 0, 1) := by decide +kernel
theorem dX11_alike_11 : decode cX11_alike 11 = .ok (.iconst (-1), 1) := by decide +kernel
theorem dX11_alike_12 : decode cX11_alike 12 = .ok (.iload_n 2, 1) := by decide +kernel
theorem dX11_alike_13 : decode cX11_alike 13 = .ok (.invokevirtual 168, 3) := by decide +kernel
theorem dX11_alike_16 : decode cX11_alike 16 = .ok (.getfield 350, 3) := by decide +kernel
theorem dX11_alike_19 : decode cX11_alike 19 = .ok (.astore 4, 2) := by decide +kernel
theorem dX11_alike_21 : decode cX11_alike 21 = .ok (.iload_n 1, 1) := by decide +kernel
theorem dX11_alike_22 : decode cX11_alike 22 = .ok (.iload_n 2, 1) := by decide +kernel
theorem dX11_alike_23 : decode cX11_alike 23 = .ok (.if_icmp .ne 11, 3) := by decide +kernel
theorem dX11_alike_26 : decode cX11_alike 26 = .ok (.new 68, 3) := by decide +kernel
theorem dX11_alike_29 : decode cX11_alike 29 = .ok (.dup, 1) := by decide +kernel
theorem dX11_alike_30 : decode cX11_alike 30 = .ok (.invokespecial 70, 3) := by decide +kernel
theorem dX11_alike_33 : decode cX11_alike 33 = .ok (.athrow, 1) := by decide +kernel
theorem dX11_alike_34 : decode cX11_alike 34 = .ok (.aload_n 3, 1) := by decide +kernel
theorem dX11_alike_35 : decode cX11_alike 35 = .ok (.aload 4, 2) := by decide +kernel
theorem dX11_alike_37 : decode cX11_alike 37 = .ok (.invokevirtual 354, 3) := by decide +kernel
theorem dX11_alike_40 : decode cX11_alike 40 = .ok (.ireturn, 1) := by decide +kernel
theorem dX11_root_0 : decode cX11_root 0 = .ok (.iload_n 1, 1) := by decide +kernel
theorem dX11_root_1 : decode cX11_root 1 = .ok (.ifCond .lt 9, 3) := by decide +kernel
theorem dX11_root_4 : decode cX11_root 4 = .ok (.iload_n 1, 1) := by decide +kernel
theorem dX11_root_5 : decode cX11_root 5 = .ok (.bipush 6, 2) := by decide +kernel
theorem dX11_root_7 : decode cX11_root 7 = .ok (.if_icmp .le 11, 3) := by decide +kernel
theorem dX11_root_10 : decode cX11_root 10 = .ok (.new 68, 3) := by decide +kernel
theorem dX11_root_13 : decode cX11_root 13 = .ok (.dup, 1) := by decide +kernel
theorem dX11_root_14 : decode cX11_root 14 = .ok (.invokespecial 70, 3) := by decide +kernel
theorem dX11_root_17 : decode cX11_root 17 = .ok (.athrow, 1) := by decide +kernel
theorem dX11_root_18 : decode cX11_root 18 = .ok (.aload_n 0, 1) := by decide +kernel
theorem dX11_root_19 : decode cX11_root 19 = .ok (.getfield 37, 3) := by decide +kernel
theorem dX11_root_22 : decode cX11_root 22 = .ok (.iload_n 1, 1) := by decide +kernel
theorem dX11_root_23 : decode cX11_root 23 = .ok (.invokevirtual 358, 3) := by decide +kernel
theorem dX11_root_26 : decode cX11_root 26 = .ok (.ireturn, 1) := by decide +kernel
theorem dX11_find_0 : decode cX11_find 0 = .ok (.iload_n 1, 1) := by decide +kernel
theorem dX11_find_1 : decode cX11_find 1 = .ok (.ifCond .lt 9, 3) := by decide +kernel
theorem dX11_find_4 : decode cX11_find 4 = .ok (.iload_n 1, 1) := by decide +kernel
theorem dX11_find_5 : decode cX11_find 5 = .ok (.bipush 6, 2) := by decide +kernel
theorem dX11_find_7 : decode cX11_find 7 = .ok (.if_icmp .le 11, 3) := by decide +kernel
theorem dX11_find_10 : decode cX11_find 10 = .ok (.new 247, 3) := by decide +kernel
theorem dX11_find_13 : decode cX11_find 13 = .ok (.dup, 1) := by decide +kernel
theorem dX11_find_14 : decode cX11_find 14 = .ok (.invokespecial 249, 3) := by decide +kernel
theorem dX11_find_17 : decode cX11_find 17 = .ok (.athrow, 1) := by decide +kernel
theorem dX11_find_18 : decode cX11_find 18 = .ok (.aload_n 0, 1) := by decide +kernel
theorem dX11_find_19 : decode cX11_find 19 = .ok (.getfield 37, 3) := by decide +kernel
theorem dX11_find_22 : decode cX11_find 22 = .ok (.iload_n 1, 1) := by decide +kernel
theorem dX11_find_23 : decode cX11_find 23 = .ok (.iload_n 2, 1) := by decide +kernel
theorem dX11_find_24 : decode cX11_find 24 = .ok (.invokevirtual 361, 3) := by decide +kernel
theorem dX11_find_27 : decode cX11_find 27 = .ok (.ireturn, 1) := by decide +kernel
theorem dX11_log_0 : decode cX11_log 0 = .ok (.iload_n 2, 1) := by decide +kernel
theorem dX11_log_1 : decode cX11_log 1 = .ok (.ifCond .lt 8, 3) := by decide +kernel
theorem dX11_log_4 : decode cX11_log 4 = .ok (.iload_n 2, 1) := by decide +kernel
theorem dX11_log_5 : decode cX11_log 5 = .ok (.iconst 5, 1) := by decide +kernel
theorem dX11_log_6 : decode cX11_log 6 = .ok (.if_icmp .lt 11, 3) := by decide +kernel
theorem dX11_log_9 : decode cX11_log 9 = .ok (.new 247, 3) := by decide +kernel
theorem dX11_log_12 : decode cX11_log 12 = .ok (.dup, 1) := by decide +kernel
theorem dX11_log_13 : decode cX11_log 13 = .ok (.invokespecial 249, 3) := by decide +kernel
theorem dX11_log_16 : decode cX11_log 16 = .ok (.athrow, 1) := by decide +kernel
theorem dX11_log_17 : decode cX11_log 17 = .ok (.iload_n 1, 1) := by decide +kernel
theorem dX11_log_18 : decode cX11_log 18 = .ok (.ifCond .ge 7, 3) := by decide +kernel
theorem dX11_log_21 : decode cX11_log 21 = .ok (.iconst (-1), 1) := by decide +kernel
theorem dX11_log_22 : decode cX11_log 22 = .ok (.goto 28, 3) := by decide +kernel
theorem dX11_log_25 : decode cX11_log 25 = .ok (.aload_n 0, 1) := by decide +kernel
theorem dX11_log_26 : decode cX11_log 26 = .ok (.getfield 37, 3) := by decide +kernel
theorem dX11_log_29 : decode cX11_log 29 = .ok (.getfield 335, 3) := by decide +kernel
theorem dX11_log_32 : decode cX11_log 32 = .ok (.aload_n 0, 1) := by decide +kernel
theorem dX11_log_33 : decode cX11_log 33 = .ok (.getfield 37, 3) := by decide +kernel
theorem dX11_log_36 : decode cX11_log 36 = .ok (.getfield 335, 3) := by decide +kernel
theorem dX11_log_39 : decode cX11_log 39 = .ok (.getfield 364, 3) := by decide +kernel
theorem dX11_log_42 : decode cX11_log 42 = .ok (.iconst 1, 1) := by decide +kernel
theorem dX11_log_43 : decode cX11_log 43 = .ok (.isub, 1) := by decide +kernel
theorem dX11_log_44 : decode cX11_log 44 = .ok (.iload_n 1, 1) := by decide +kernel
theorem dX11_log_45 : decode cX11_log 45 = .ok (.isub, 1) := by decide +kernel
theorem dX11_log_46 : decode cX11_log 46 = .ok (.iload_n 2, 1) := by decide +kernel
theorem dX11_log_47 : decode cX11_log 47 = .ok (.invokevirtual 367, 3) := by decide +kernel
theorem dX11_log_50 : decode cX11_log 50 = .ok (.ireturn, 1) := by decide +kernel
theorem dX11_image_0 : decode cX11_image 0 = .ok (.aload_n 0, 1) := by decide +kernel
theorem dX11_image_1 : decode cX11_image 1 = .ok (.getfield 33, 3) := by decide +kernel
theorem dX11_image_4 : decode cX11_image 4 = .ok (.aload_n 0, 1) := by decide +kernel
theorem dX11_image_5 : decode cX11_image 5 = .ok (.getfield 37, 3) := by decide +kernel
theorem dX11_image_8 : decode cX11_image 8 = .ok (.invokevirtual 58, 3) := by decide +kernel
theorem dX11_image_11 : decode cX11_image 11 = .ok (.aload_n 0, 1) := by decide +kernel
theorem dX11_image_12 : decode cX11_image 12 = .ok (.iconst 1, 1) := by decide +kernel
theorem dX11_image_13 : decode cX11_image 13 = .ok (.putfield 370, 3) := by decide +kernel
theorem dX11_image_16 : decode cX11_image 16 = .ok (.return_, 1) := by decide +kernel
theorem dX11_back_0 : decode cX11_back 0 = .ok (.aload_n 0, 1) := by decide +kernel
theorem dX11_back_1 : decode cX11_back 1 = .ok (.getfield 370, 3) := by decide +kernel
theorem dX11_back_4 : decode cX11_back 4 = .ok (.ifCond .ne 5, 3) := by decide +kernel
theorem dX11_back_7 : decode cX11_back 7 = .ok (.iconst 0, 1) := by decide +kernel
theorem dX11_back_8 : decode cX11_back 8 = .ok (.ireturn, 1) := by decide +kernel
theorem dX11_back_9 : decode cX11_back 9 = .ok (.aload_n 0, 1) := by decide +kernel
theorem dX11_back_10 : decode cX11_back 10 = .ok (.getfield 37, 3) := by decide +kernel
theorem dX11_back_13 : decode cX11_back 13 = .ok (.aload_n 0, 1) := by decide +kernel
theorem dX11_back_14 : decode cX11_back 14 = .ok (.getfield 33, 3) := by decide +kernel
theorem dX11_back_17 : decode cX11_back 17 = .ok (.invokevirtual 58, 3) := by decide +kernel
theorem dX11_back_20 : decode cX11_back 20 = .ok (.iconst 1, 1) := by decide +kernel
theorem dX11_back_21 : decode cX11_back 21 = .ok (.ireturn, 1) := by decide +kernel
theorem dX11_count_0 : decode cX11_count 0 = .ok (.iload_n 1, 1) := by decide +kernel
theorem dX11_count_1 : decode cX11_count 1 = .ok (.tableswitch 244 0 17 #[87, 95, 103, 111, 119, 127, 135, 143, 151, 159, 167, 175, 183, 193, 203, 213, 223, 233], 87) := by decide +kernel
theorem dX11_count_88 : decode cX11_count 88 = .ok (.aload_n 0, 1) := by decide +kernel
theorem dX11_count_89 : decode cX11_count 89 = .ok (.getfield 37, 3) := by decide +kernel
theorem dX11_count_92 : decode cX11_count 92 = .ok (.invokevirtual 373, 3) := by decide +kernel
theorem dX11_count_95 : decode cX11_count 95 = .ok (.ireturn, 1) := by decide +kernel
theorem dX11_count_96 : decode cX11_count 96 = .ok (.aload_n 0, 1) := by decide +kernel
theorem dX11_count_97 : decode cX11_count 97 = .ok (.getfield 37, 3) := by decide +kernel
theorem dX11_count_100 : decode cX11_count 100 = .ok (.getfield 376, 3) := by decide +kernel
theorem dX11_count_103 : decode cX11_count 103 = .ok (.ireturn, 1) := by decide +kernel
theorem dX11_count_104 : decode cX11_count 104 = .ok (.aload_n 0, 1) := by decide +kernel
theorem dX11_count_105 : decode cX11_count 105 = .ok (.getfield 37, 3) := by decide +kernel
theorem dX11_count_108 : decode cX11_count 108 = .ok (.getfield 268, 3) := by decide +kernel
theorem dX11_count_111 : decode cX11_count 111 = .ok (.ireturn, 1) := by decide +kernel
theorem dX11_count_112 : decode cX11_count 112 = .ok (.aload_n 0, 1) := by decide +kernel
theorem dX11_count_113 : decode cX11_count 113 = .ok (.getfield 37, 3) := by decide +kernel
theorem dX11_count_116 : decode cX11_count 116 = .ok (.getfield 71, 3) := by decide +kernel
theorem dX11_count_119 : decode cX11_count 119 = .ok (.ireturn, 1) := by decide +kernel
theorem dX11_count_120 : decode cX11_count 120 = .ok (.aload_n 0, 1) := by decide +kernel
theorem dX11_count_121 : decode cX11_count 121 = .ok (.getfield 37, 3) := by decide +kernel
theorem dX11_count_124 : decode cX11_count 124 = .ok (.getfield 150, 3) := by decide +kernel
theorem dX11_count_127 : decode cX11_count 127 = .ok (.ireturn, 1) := by decide +kernel
theorem dX11_count_128 : decode cX11_count 128 = .ok (.aload_n 0, 1) := by decide +kernel
theorem dX11_count_129 : decode cX11_count 129 = .ok (.getfield 37, 3) := by decide +kernel
theorem dX11_count_132 : decode cX11_count 132 = .ok (.getfield 379, 3) := by decide +kernel
theorem dX11_count_135 : decode cX11_count 135 = .ok (.ireturn, 1) := by decide +kernel
theorem dX11_count_136 : decode cX11_count 136 = .ok (.aload_n 0, 1) := by decide +kernel
theorem dX11_count_137 : decode cX11_count 137 = .ok (.getfield 37, 3) := by decide +kernel
theorem dX11_count_140 : decode cX11_count 140 = .ok (.getfield 382, 3) := by decide +kernel
theorem dX11_count_143 : decode cX11_count 143 = .ok (.ireturn, 1) := by decide +kernel
theorem dX11_count_144 : decode cX11_count 144 = .ok (.aload_n 0, 1) := by decide +kernel
theorem dX11_count_145 : decode cX11_count 145 = .ok (.getfield 37, 3) := by decide +kernel
theorem dX11_count_148 : decode cX11_count 148 = .ok (.getfield 385, 3) := by decide +kernel
theorem dX11_count_151 : decode cX11_count 151 = .ok (.ireturn, 1) := by decide +kernel
theorem dX11_count_152 : decode cX11_count 152 = .ok (.aload_n 0, 1) := by decide +kernel
theorem dX11_count_153 : decode cX11_count 153 = .ok (.getfield 37, 3) := by decide +kernel
theorem dX11_count_156 : decode cX11_count 156 = .ok (.getfield 388, 3) := by decide +kernel
theorem dX11_count_159 : decode cX11_count 159 = .ok (.ireturn, 1) := by decide +kernel
theorem dX11_count_160 : decode cX11_count 160 = .ok (.aload_n 0, 1) := by decide +kernel
theorem dX11_count_161 : decode cX11_count 161 = .ok (.getfield 37, 3) := by decide +kernel
theorem dX11_count_164 : decode cX11_count 164 = .ok (.getfield 391, 3) := by decide +kernel
theorem dX11_count_167 : decode cX11_count 167 = .ok (.ireturn, 1) := by decide +kernel
theorem dX11_count_168 : decode cX11_count 168 = .ok (.aload_n 0, 1) := by decide +kernel
theorem dX11_count_169 : decode cX11_count 169 = .ok (.getfield 37, 3) := by decide +kernel
theorem dX11_count_172 : decode cX11_count 172 = .ok (.invokevirtual 112, 3) := by decide +kernel
theorem dX11_count_175 : decode cX11_count 175 = .ok (.ireturn, 1) := by decide +kernel
theorem dX11_count_176 : decode cX11_count 176 = .ok (.aload_n 0, 1) := by decide +kernel
theorem dX11_count_177 : decode cX11_count 177 = .ok (.getfield 37, 3) := by decide +kernel
theorem dX11_count_180 : decode cX11_count 180 = .ok (.invokevirtual 394, 3) := by decide +kernel
theorem dX11_count_183 : decode cX11_count 183 = .ok (.ireturn, 1) := by decide +kernel
theorem dX11_count_184 : decode cX11_count 184 = .ok (.aload_n 0, 1) := by decide +kernel
theorem dX11_count_185 : decode cX11_count 185 = .ok (.getfield 37, 3) := by decide +kernel
theorem dX11_count_188 : decode cX11_count 188 = .ok (.getfield 153, 3) := by decide +kernel
theorem dX11_count_191 : decode cX11_count 191 = .ok (.iconst 0, 1) := by decide +kernel
theorem dX11_count_192 : decode cX11_count 192 = .ok (.iaload, 1) := by decide +kernel
theorem dX11_count_193 : decode cX11_count 193 = .ok (.ireturn, 1) := by decide +kernel
theorem dX11_count_194 : decode cX11_count 194 = .ok (.aload_n 0, 1) := by decide +kernel
theorem dX11_count_195 : decode cX11_count 195 = .ok (.getfield 37, 3) := by decide +kernel
theorem dX11_count_198 : decode cX11_count 198 = .ok (.getfield 153, 3) := by decide +kernel
theorem dX11_count_201 : decode cX11_count 201 = .ok (.iconst 1, 1) := by decide +kernel
theorem dX11_count_202 : decode cX11_count 202 = .ok (.iaload, 1) := by decide +kernel
theorem dX11_count_203 : decode cX11_count 203 = .ok (.ireturn, 1) := by decide +kernel
theorem dX11_count_204 : decode cX11_count 204 = .ok (.aload_n 0, 1) := by decide +kernel
theorem dX11_count_205 : decode cX11_count 205 = .ok (.getfield 37, 3) := by decide +kernel
theorem dX11_count_208 : decode cX11_count 208 = .ok (.getfield 153, 3) := by decide +kernel
theorem dX11_count_211 : decode cX11_count 211 = .ok (.iconst 2, 1) := by decide +kernel
theorem dX11_count_212 : decode cX11_count 212 = .ok (.iaload, 1) := by decide +kernel
theorem dX11_count_213 : decode cX11_count 213 = .ok (.ireturn, 1) := by decide +kernel
theorem dX11_count_214 : decode cX11_count 214 = .ok (.aload_n 0, 1) := by decide +kernel
theorem dX11_count_215 : decode cX11_count 215 = .ok (.getfield 37, 3) := by decide +kernel
theorem dX11_count_218 : decode cX11_count 218 = .ok (.getfield 153, 3) := by decide +kernel
theorem dX11_count_221 : decode cX11_count 221 = .ok (.iconst 3, 1) := by decide +kernel
theorem dX11_count_222 : decode cX11_count 222 = .ok (.iaload, 1) := by decide +kernel
theorem dX11_count_223 : decode cX11_count 223 = .ok (.ireturn, 1) := by decide +kernel
theorem dX11_count_224 : decode cX11_count 224 = .ok (.aload_n 0, 1) := by decide +kernel
theorem dX11_count_225 : decode cX11_count 225 = .ok (.getfield 37, 3) := by decide +kernel
theorem dX11_count_228 : decode cX11_count 228 = .ok (.getfield 153, 3) := by decide +kernel
theorem dX11_count_231 : decode cX11_count 231 = .ok (.iconst 4, 1) := by decide +kernel
theorem dX11_count_232 : decode cX11_count 232 = .ok (.iaload, 1) := by decide +kernel
theorem dX11_count_233 : decode cX11_count 233 = .ok (.ireturn, 1) := by decide +kernel
theorem dX11_count_234 : decode cX11_count 234 = .ok (.aload_n 0, 1) := by decide +kernel
theorem dX11_count_235 : decode cX11_count 235 = .ok (.getfield 37, 3) := by decide +kernel
theorem dX11_count_238 : decode cX11_count 238 = .ok (.getfield 335, 3) := by decide +kernel
theorem dX11_count_241 : decode cX11_count 241 = .ok (.getfield 364, 3) := by decide +kernel
theorem dX11_count_244 : decode cX11_count 244 = .ok (.ireturn, 1) := by decide +kernel
theorem dX11_count_245 : decode cX11_count 245 = .ok (.iconst (-1), 1) := by decide +kernel
theorem dX11_count_246 : decode cX11_count 246 = .ok (.ireturn, 1) := by decide +kernel
theorem dX11_needSession_0 : decode cX11_needSession 0 = .ok (.iload_n 1, 1) := by decide +kernel
theorem dX11_needSession_1 : decode cX11_needSession 1 = .ok (.ifCond .lt 14, 3) := by decide +kernel
theorem dX11_needSession_4 : decode cX11_needSession 4 = .ok (.iload_n 1, 1) := by decide +kernel
theorem dX11_needSession_5 : decode cX11_needSession 5 = .ok (.aload_n 0, 1) := by decide +kernel
theorem dX11_needSession_6 : decode cX11_needSession 6 = .ok (.getfield 37, 3) := by decide +kernel
theorem dX11_needSession_9 : decode cX11_needSession 9 = .ok (.getfield 376, 3) := by decide +kernel
theorem dX11_needSession_12 : decode cX11_needSession 12 = .ok (.if_icmp .lt 11, 3) := by decide +kernel
theorem dX11_needSession_15 : decode cX11_needSession 15 = .ok (.new 271, 3) := by decide +kernel
theorem dX11_needSession_18 : decode cX11_needSession 18 = .ok (.dup, 1) := by decide +kernel
theorem dX11_needSession_19 : decode cX11_needSession 19 = .ok (.invokespecial 273, 3) := by decide +kernel
theorem dX11_needSession_22 : decode cX11_needSession 22 = .ok (.athrow, 1) := by decide +kernel
theorem dX11_needSession_23 : decode cX11_needSession 23 = .ok (.return_, 1) := by decide +kernel
theorem dX11_needViewer_0 : decode cX11_needViewer 0 = .ok (.iload_n 1, 1) := by decide +kernel
theorem dX11_needViewer_1 : decode cX11_needViewer 1 = .ok (.iconst (-1), 1) := by decide +kernel
theorem dX11_needViewer_2 : decode cX11_needViewer 2 = .ok (.if_icmp .eq 8, 3) := by decide +kernel
theorem dX11_needViewer_5 : decode cX11_needViewer 5 = .ok (.aload_n 0, 1) := by decide +kernel
theorem dX11_needViewer_6 : decode cX11_needViewer 6 = .ok (.iload_n 1, 1) := by decide +kernel
theorem dX11_needViewer_7 : decode cX11_needViewer 7 = .ok (.invokevirtual 77, 3) := by decide +kernel
theorem dX11_needViewer_10 : decode cX11_needViewer 10 = .ok (.return_, 1) := by decide +kernel
theorem dX11_needGroup_0 : decode cX11_needGroup 0 = .ok (.iload_n 1, 1) := by decide +kernel
theorem dX11_needGroup_1 : decode cX11_needGroup 1 = .ok (.ifCond .lt 9, 3) := by decide +kernel
theorem dX11_needGroup_4 : decode cX11_needGroup 4 = .ok (.iload_n 1, 1) := by decide +kernel
theorem dX11_needGroup_5 : decode cX11_needGroup 5 = .ok (.bipush 6, 2) := by decide +kernel
theorem dX11_needGroup_7 : decode cX11_needGroup 7 = .ok (.if_icmp .lt 11, 3) := by decide +kernel
theorem dX11_needGroup_10 : decode cX11_needGroup 10 = .ok (.new 271, 3) := by decide +kernel
theorem dX11_needGroup_13 : decode cX11_needGroup 13 = .ok (.dup, 1) := by decide +kernel
theorem dX11_needGroup_14 : decode cX11_needGroup 14 = .ok (.invokespecial 273, 3) := by decide +kernel
theorem dX11_needGroup_17 : decode cX11_needGroup 17 = .ok (.athrow, 1) := by decide +kernel
theorem dX11_needGroup_18 : decode cX11_needGroup 18 = .ok (.return_, 1) := by decide +kernel
theorem dX11_needJob_0 : decode cX11_needJob 0 = .ok (.aload_n 0, 1) := by decide +kernel
theorem dX11_needJob_1 : decode cX11_needJob 1 = .ok (.getfield 37, 3) := by decide +kernel
theorem dX11_needJob_4 : decode cX11_needJob 4 = .ok (.iload_n 2, 1) := by decide +kernel
theorem dX11_needJob_5 : decode cX11_needJob 5 = .ok (.iload_n 1, 1) := by decide +kernel
theorem dX11_needJob_6 : decode cX11_needJob 6 = .ok (.invokevirtual 397, 3) := by decide +kernel
theorem dX11_needJob_9 : decode cX11_needJob 9 = .ok (.astore_n 3, 1) := by decide +kernel
theorem dX11_needJob_10 : decode cX11_needJob 10 = .ok (.aload_n 3, 1) := by decide +kernel
theorem dX11_needJob_11 : decode cX11_needJob 11 = .ok (.ifnonnull 11, 3) := by decide +kernel
theorem dX11_needJob_14 : decode cX11_needJob 14 = .ok (.new 271, 3) := by decide +kernel
theorem dX11_needJob_17 : decode cX11_needJob 17 = .ok (.dup, 1) := by decide +kernel
theorem dX11_needJob_18 : decode cX11_needJob 18 = .ok (.invokespecial 273, 3) := by decide +kernel
theorem dX11_needJob_21 : decode cX11_needJob 21 = .ok (.athrow, 1) := by decide +kernel
theorem dX11_needJob_22 : decode cX11_needJob 22 = .ok (.aload_n 3, 1) := by decide +kernel
theorem dX11_needJob_23 : decode cX11_needJob 23 = .ok (.areturn, 1) := by decide +kernel
theorem dX11_tryBoth_0 : decode cX11_tryBoth 0 = .ok (.aload_n 0, 1) := by decide +kernel
theorem dX11_tryBoth_1 : decode cX11_tryBoth 1 = .ok (.getfield 40, 3) := by decide +kernel
theorem dX11_tryBoth_4 : decode cX11_tryBoth 4 = .ok (.aload_n 0, 1) := by decide +kernel
theorem dX11_tryBoth_5 : decode cX11_tryBoth 5 = .ok (.getfield 37, 3) := by decide +kernel
theorem dX11_tryBoth_8 : decode cX11_tryBoth 8 = .ok (.invokevirtual 58, 3) := by decide +kernel
theorem dX11_tryBoth_11 : decode cX11_tryBoth 11 = .ok (.aload_n 0, 1) := by decide +kernel
theorem dX11_tryBoth_12 : decode cX11_tryBoth 12 = .ok (.getfield 26, 3) := by decide +kernel
theorem dX11_tryBoth_15 : decode cX11_tryBoth 15 = .ok (.aload_n 0, 1) := by decide +kernel
theorem dX11_tryBoth_16 : decode cX11_tryBoth 16 = .ok (.getfield 40, 3) := by decide +kernel
theorem dX11_tryBoth_19 : decode cX11_tryBoth 19 = .ok (.iload_n 1, 1) := by decide +kernel
theorem dX11_tryBoth_20 : decode cX11_tryBoth 20 = .ok (.invokevirtual 136, 3) := by decide +kernel
theorem dX11_tryBoth_23 : decode cX11_tryBoth 23 = .ok (.aload_n 0, 1) := by decide +kernel
theorem dX11_tryBoth_24 : decode cX11_tryBoth 24 = .ok (.getfield 26, 3) := by decide +kernel
theorem dX11_tryBoth_27 : decode cX11_tryBoth 27 = .ok (.aload_n 0, 1) := by decide +kernel
theorem dX11_tryBoth_28 : decode cX11_tryBoth 28 = .ok (.getfield 40, 3) := by decide +kernel
theorem dX11_tryBoth_31 : decode cX11_tryBoth 31 = .ok (.iload_n 2, 1) := by decide +kernel
theorem dX11_tryBoth_32 : decode cX11_tryBoth 32 = .ok (.invokevirtual 136, 3) := by decide +kernel
theorem dX11_tryBoth_35 : decode cX11_tryBoth 35 = .ok (.return_, 1) := by decide +kernel
theorem dX11_settle_0 : decode cX11_settle 0 = .ok (.aload_n 0, 1) := by decide +kernel
theorem dX11_settle_1 : decode cX11_settle 1 = .ok (.iload_n 1, 1) := by decide +kernel
theorem dX11_settle_2 : decode cX11_settle 2 = .ok (.putfield 102, 3) := by decide +kernel
theorem dX11_settle_5 : decode cX11_settle 5 = .ok (.iload_n 1, 1) := by decide +kernel
theorem dX11_settle_6 : decode cX11_settle 6 = .ok (.ifCond .eq 11, 3) := by decide +kernel
theorem dX11_settle_9 : decode cX11_settle 9 = .ok (.new 400, 3) := by decide +kernel
theorem dX11_settle_12 : decode cX11_settle 12 = .ok (.dup, 1) := by decide +kernel
theorem dX11_settle_13 : decode cX11_settle 13 = .ok (.invokespecial 402, 3) := by decide +kernel
theorem dX11_settle_16 : decode cX11_settle 16 = .ok (.athrow, 1) := by decide +kernel
theorem dX11_settle_17 : decode cX11_settle 17 = .ok (.return_, 1) := by decide +kernel
theorem dX11_settleOpen_0 : decode cX11_settleOpen 0 = .ok (.aload_n 0, 1) := by decide +kernel
theorem dX11_settleOpen_1 : decode cX11_settleOpen 1 = .ok (.aload_n 0, 1) := by decide +kernel
theorem dX11_settleOpen_2 : decode cX11_settleOpen 2 = .ok (.getfield 37, 3) := by decide +kernel
theorem dX11_settleOpen_5 : decode cX11_settleOpen 5 = .ok (.getfield 84, 3) := by decide +kernel
theorem dX11_settleOpen_8 : decode cX11_settleOpen 8 = .ok (.iload_n 1, 1) := by decide +kernel
theorem dX11_settleOpen_9 : decode cX11_settleOpen 9 = .ok (.aaload, 1) := by decide +kernel
theorem dX11_settleOpen_10 : decode cX11_settleOpen 10 = .ok (.getfield 105, 3) := by decide +kernel
theorem dX11_settleOpen_13 : decode cX11_settleOpen 13 = .ok (.ifCond .eq 7, 3) := by decide +kernel
theorem dX11_settleOpen_16 : decode cX11_settleOpen 16 = .ok (.iconst 0, 1) := by decide +kernel
theorem dX11_settleOpen_17 : decode cX11_settleOpen 17 = .ok (.goto 4, 3) := by decide +kernel
theorem dX11_settleOpen_20 : decode cX11_settleOpen 20 = .ok (.iconst 1, 1) := by decide +kernel
theorem dX11_settleOpen_21 : decode cX11_settleOpen 21 = .ok (.invokevirtual 109, 3) := by decide +kernel
theorem dX11_settleOpen_24 : decode cX11_settleOpen 24 = .ok (.return_, 1) := by decide +kernel
theorem dX11_lockHeld_0 : decode cX11_lockHeld 0 = .ok (.aload_n 0, 1) := by decide +kernel
theorem dX11_lockHeld_1 : decode cX11_lockHeld 1 = .ok (.iload_n 1, 1) := by decide +kernel
theorem dX11_lockHeld_2 : decode cX11_lockHeld 2 = .ok (.invokevirtual 77, 3) := by decide +kernel
theorem dX11_lockHeld_5 : decode cX11_lockHeld 5 = .ok (.aload_n 0, 1) := by decide +kernel
theorem dX11_lockHeld_6 : decode cX11_lockHeld 6 = .ok (.iload_n 1, 1) := by decide +kernel
theorem dX11_lockHeld_7 : decode cX11_lockHeld 7 = .ok (.iload_n 2, 1) := by decide +kernel
theorem dX11_lockHeld_8 : decode cX11_lockHeld 8 = .ok (.invokevirtual 168, 3) := by decide +kernel
theorem dX11_lockHeld_11 : decode cX11_lockHeld 11 = .ok (.astore 4, 2) := by decide +kernel
theorem dX11_lockHeld_13 : decode cX11_lockHeld 13 = .ok (.aload_n 0, 1) := by decide +kernel
theorem dX11_lockHeld_14 : decode cX11_lockHeld 14 = .ok (.aload_n 0, 1) := by decide +kernel
theorem dX11_lockHeld_15 : decode cX11_lockHeld 15 = .ok (.aload 4, 2) := by decide +kernel
theorem dX11_lockHeld_17 : decode cX11_lockHeld 17 = .ok (.iload_n 1, 1) := by decide +kernel
theorem dX11_lockHeld_18 : decode cX11_lockHeld 18 = .ok (.iload_n 3, 1) := by decide +kernel
theorem dX11_lockHeld_19 : decode cX11_lockHeld 19 = .ok (.invokevirtual 403, 3) := by decide +kernel
theorem dX11_lockHeld_22 : decode cX11_lockHeld 22 = .ok (.invokevirtual 109, 3) := by decide +kernel
theorem dX11_lockHeld_25 : decode cX11_lockHeld 25 = .ok (.aload 4, 2) := by decide +kernel
theorem dX11_lockHeld_27 : decode cX11_lockHeld 27 = .ok (.iload_n 1, 1) := by decide +kernel
theorem dX11_lockHeld_28 : decode cX11_lockHeld 28 = .ok (.invokevirtual 186, 3) := by decide +kernel
theorem dX11_lockHeld_31 : decode cX11_lockHeld 31 = .ok (.areturn, 1) := by decide +kernel
theorem dX11_whyNotHeld_0 : decode cX11_whyNotHeld 0 = .ok (.aload_n 1, 1) := by decide +kernel
theorem dX11_whyNotHeld_1 : decode cX11_whyNotHeld 1 = .ok (.iload_n 2, 1) := by decide +kernel
theorem dX11_whyNotHeld_2 : decode cX11_whyNotHeld 2 = .ok (.invokevirtual 217, 3) := by decide +kernel
theorem dX11_whyNotHeld_5 : decode cX11_whyNotHeld 5 = .ok (.astore 4, 2) := by decide +kernel
theorem dX11_whyNotHeld_7 : decode cX11_whyNotHeld 7 = .ok (.aload_n 1, 1) := by decide +kernel
theorem dX11_whyNotHeld_8 : decode cX11_whyNotHeld 8 = .ok (.iload_n 2, 1) := by decide +kernel
theorem dX11_whyNotHeld_9 : decode cX11_whyNotHeld 9 = .ok (.invokevirtual 407, 3) := by decide +kernel
theorem dX11_whyNotHeld_12 : decode cX11_whyNotHeld 12 = .ok (.ifCond .eq 5, 3) := by decide +kernel
theorem dX11_whyNotHeld_15 : decode cX11_whyNotHeld 15 = .ok (.iconst 2, 1) := by decide +kernel
theorem dX11_whyNotHeld_16 : decode cX11_whyNotHeld 16 = .ok (.ireturn, 1) := by decide +kernel
theorem dX11_whyNotHeld_17 : decode cX11_whyNotHeld 17 = .ok (.aload 4, 2) := by decide +kernel
theorem dX11_whyNotHeld_19 : decode cX11_whyNotHeld 19 = .ok (.getfield 162, 3) := by decide +kernel
theorem dX11_whyNotHeld_22 : decode cX11_whyNotHeld 22 = .ok (.iconst 1, 1) := by decide +kernel
theorem dX11_whyNotHeld_23 : decode cX11_whyNotHeld 23 = .ok (.if_icmp .ne 21, 3) := by decide +kernel
theorem dX11_whyNotHeld_26 : decode cX11_whyNotHeld 26 = .ok (.aload 4, 2) := by decide +kernel
theorem dX11_whyNotHeld_28 : decode cX11_whyNotHeld 28 = .ok (.getfield 235, 3) := by decide +kernel
theorem dX11_whyNotHeld_31 : decode cX11_whyNotHeld 31 = .ok (.iload_n 3, 1) := by decide +kernel
theorem dX11_whyNotHeld_32 : decode cX11_whyNotHeld 32 = .ok (.if_icmp .ne 12, 3) := by decide +kernel
theorem dX11_whyNotHeld_35 : decode cX11_whyNotHeld 35 = .ok (.aload 4, 2) := by decide +kernel
theorem dX11_whyNotHeld_37 : decode cX11_whyNotHeld 37 = .ok (.getfield 238, 3) := by decide +kernel
theorem dX11_whyNotHeld_40 : decode cX11_whyNotHeld 40 = .ok (.iload_n 2, 1) := by decide +kernel
theorem dX11_whyNotHeld_41 : decode cX11_whyNotHeld 41 = .ok (.if_icmp .eq 5, 3) := by decide +kernel
theorem dX11_whyNotHeld_44 : decode cX11_whyNotHeld 44 = .ok (.iconst 3, 1) := by decide +kernel
theorem dX11_whyNotHeld_45 : decode cX11_whyNotHeld 45 = .ok (.ireturn, 1) := by decide +kernel
theorem dX11_whyNotHeld_46 : decode cX11_whyNotHeld 46 = .ok (.aload 4, 2) := by decide +kernel
theorem dX11_whyNotHeld_48 : decode cX11_whyNotHeld 48 = .ok (.getfield 157, 3) := by decide +kernel
theorem dX11_whyNotHeld_51 : decode cX11_whyNotHeld 51 = .ok (.aload_n 0, 1) := by decide +kernel
theorem dX11_whyNotHeld_52 : decode cX11_whyNotHeld 52 = .ok (.getfield 37, 3) := by decide +kernel
theorem dX11_whyNotHeld_55 : decode cX11_whyNotHeld 55 = .ok (.getfield 150, 3) := by decide +kernel
theorem dX11_whyNotHeld_58 : decode cX11_whyNotHeld 58 = .ok (.if_icmp .ge 7, 3) := by decide +kernel
theorem dX11_whyNotHeld_61 : decode cX11_whyNotHeld 61 = .ok (.iconst 4, 1) := by decide +kernel
theorem dX11_whyNotHeld_62 : decode cX11_whyNotHeld 62 = .ok (.goto 4, 3) := by decide +kernel
theorem dX11_whyNotHeld_65 : decode cX11_whyNotHeld 65 = .ok (.iconst 0, 1) := by decide +kernel
theorem dX11_whyNotHeld_66 : decode cX11_whyNotHeld 66 = .ok (.ireturn, 1) := by decide +kernel
theorem dX11_whyNotSetAside_0 : decode cX11_whyNotSetAside 0 = .ok (.aload_n 0, 1) := by decide +kernel
theorem dX11_whyNotSetAside_1 : decode cX11_whyNotSetAside 1 = .ok (.iload_n 1, 1) := by decide +kernel
theorem dX11_whyNotSetAside_2 : decode cX11_whyNotSetAside 2 = .ok (.invokevirtual 407, 3) := by decide +kernel
theorem dX11_whyNotSetAside_5 : decode cX11_whyNotSetAside 5 = .ok (.ifCond .eq 5, 3) := by decide +kernel
theorem dX11_whyNotSetAside_8 : decode cX11_whyNotSetAside 8 = .ok (.iconst 2, 1) := by decide +kernel
theorem dX11_whyNotSetAside_9 : decode cX11_whyNotSetAside 9 = .ok (.ireturn, 1) := by decide +kernel
theorem dX11_whyNotSetAside_10 : decode cX11_whyNotSetAside 10 = .ok (.aload_n 0, 1) := by decide +kernel
theorem dX11_whyNotSetAside_11 : decode cX11_whyNotSetAside 11 = .ok (.iload_n 1, 1) := by decide +kernel
theorem dX11_whyNotSetAside_12 : decode cX11_whyNotSetAside 12 = .ok (.invokevirtual 217, 3) := by decide +kernel
theorem dX11_whyNotSetAside_15 : decode cX11_whyNotSetAside 15 = .ok (.getfield 162, 3) := by decide +kernel
theorem dX11_whyNotSetAside_18 : decode cX11_whyNotSetAside 18 = .ok (.iconst 3, 1) := by decide +kernel
theorem dX11_whyNotSetAside_19 : decode cX11_whyNotSetAside 19 = .ok (.if_icmp .ne 7, 3) := by decide +kernel
theorem dX11_whyNotSetAside_22 : decode cX11_whyNotSetAside 22 = .ok (.iconst 0, 1) := by decide +kernel
theorem dX11_whyNotSetAside_23 : decode cX11_whyNotSetAside 23 = .ok (.goto 4, 3) := by decide +kernel
theorem dX11_whyNotSetAside_26 : decode cX11_whyNotSetAside 26 = .ok (.iconst 3, 1) := by decide +kernel
theorem dX11_whyNotSetAside_27 : decode cX11_whyNotSetAside 27 = .ok (.ireturn, 1) := by decide +kernel
