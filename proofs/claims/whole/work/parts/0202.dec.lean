theorem dX4_tells_31 : decode cX4_tells 31 = .ok (.bipush (-6), 2) := by decide +kernel
theorem dX4_tells_33 : decode cX4_tells 33 = .ok (.bipush (-16), 2) := by decide +kernel
theorem dX4_tells_35 : decode cX4_tells 35 = .ok (.invokevirtual 55, 3) := by decide +kernel
theorem dX4_tells_38 : decode cX4_tells 38 = .ok (.ireturn, 1) := by decide +kernel
theorem dX4_tells_39 : decode cX4_tells 39 = .ok (.iconst 0, 1) := by decide +kernel
theorem dX4_tells_40 : decode cX4_tells 40 = .ok (.istore_n 3, 1) := by decide +kernel
theorem dX4_tells_41 : decode cX4_tells 41 = .ok (.iload_n 3, 1) := by decide +kernel
theorem dX4_tells_42 : decode cX4_tells 42 = .ok (.aload_n 0, 1) := by decide +kernel
theorem dX4_tells_43 : decode cX4_tells 43 = .ok (.getfield 10, 3) := by decide +kernel
theorem dX4_tells_46 : decode cX4_tells 46 = .ok (.getfield 149, 3) := by decide +kernel
theorem dX4_tells_49 : decode cX4_tells 49 = .ok (.if_icmp .gt 24, 3) := by decide +kernel
theorem dX4_tells_52 : decode cX4_tells 52 = .ok (.aload_n 0, 1) := by decide +kernel
theorem dX4_tells_53 : decode cX4_tells 53 = .ok (.getfield 10, 3) := by decide +kernel
theorem dX4_tells_56 : decode cX4_tells 56 = .ok (.iload_n 1, 1) := by decide +kernel
theorem dX4_tells_57 : decode cX4_tells 57 = .ok (.iload_n 3, 1) := by decide +kernel
theorem dX4_tells_58 : decode cX4_tells 58 = .ok (.invokevirtual 251, 3) := by decide +kernel
theorem dX4_tells_61 : decode cX4_tells 61 = .ok (.iload_n 2, 1) := by decide +kernel
theorem dX4_tells_62 : decode cX4_tells 62 = .ok (.if_icmp .lt 5, 3) := by decide +kernel
theorem dX4_tells_65 : decode cX4_tells 65 = .ok (.iload_n 3, 1) := by decide +kernel
theorem dX4_tells_66 : decode cX4_tells 66 = .ok (.ireturn, 1) := by decide +kernel
theorem dX4_tells_67 : decode cX4_tells 67 = .ok (.iinc 3 1, 3) := by decide +kernel
theorem dX4_tells_70 : decode cX4_tells 70 = .ok (.goto (-29), 3) := by decide +kernel
theorem dX4_tells_73 : decode cX4_tells 73 = .ok (.iconst (-1), 1) := by decide +kernel
theorem dX4_tells_74 : decode cX4_tells 74 = .ok (.ireturn, 1) := by decide +kernel
theorem dX4_errands_0 : decode cX4_errands 0 = .ok (.aload_n 0, 1) := by decide +kernel
theorem dX4_errands_1 : decode cX4_errands 1 = .ok (.iload_n 1, 1) := by decide +kernel
theorem dX4_errands_2 : decode cX4_errands 2 = .ok (.iload_n 2, 1) := by decide +kernel
theorem dX4_errands_3 : decode cX4_errands 3 = .ok (.invokevirtual 254, 3) := by decide +kernel
theorem dX4_errands_6 : decode cX4_errands 6 = .ok (.istore_n 3, 1) := by decide +kernel
theorem dX4_errands_7 : decode cX4_errands 7 = .ok (.iload_n 3, 1) := by decide +kernel
theorem dX4_errands_8 : decode cX4_errands 8 = .ok (.ifCond .eq 9, 3) := by decide +kernel
theorem dX4_errands_11 : decode cX4_errands 11 = .ok (.aload_n 0, 1) := by decide +kernel
theorem dX4_errands_12 : decode cX4_errands 12 = .ok (.iload_n 3, 1) := by decide +kernel
theorem dX4_errands_13 : decode cX4_errands 13 = .ok (.invokevirtual 82, 3) := by decide +kernel
theorem dX4_errands_16 : decode cX4_errands 16 = .ok (.ireturn, 1) := by decide +kernel
theorem dX4_errands_17 : decode cX4_errands 17 = .ok (.aload_n 0, 1) := by decide +kernel
theorem dX4_errands_18 : decode cX4_errands 18 = .ok (.getfield 24, 3) := by decide +kernel
theorem dX4_errands_21 : decode cX4_errands 21 = .ok (.iload_n 1, 1) := by decide +kernel
theorem dX4_errands_22 : decode cX4_errands 22 = .ok (.aaload, 1) := by decide +kernel
theorem dX4_errands_23 : decode cX4_errands 23 = .ok (.astore 4, 2) := by decide +kernel
theorem dX4_errands_25 : decode cX4_errands 25 = .ok (.aload_n 0, 1) := by decide +kernel
theorem dX4_errands_26 : decode cX4_errands 26 = .ok (.aload 4, 2) := by decide +kernel
theorem dX4_errands_28 : decode cX4_errands 28 = .ok (.iload_n 2, 1) := by decide +kernel
theorem dX4_errands_29 : decode cX4_errands 29 = .ok (.invokevirtual 257, 3) := by decide +kernel
theorem dX4_errands_32 : decode cX4_errands 32 = .ok (.istore 5, 2) := by decide +kernel
theorem dX4_errands_34 : decode cX4_errands 34 = .ok (.iconst 0, 1) := by decide +kernel
theorem dX4_errands_35 : decode cX4_errands 35 = .ok (.istore 6, 2) := by decide +kernel
theorem dX4_errands_37 : decode cX4_errands 37 = .ok (.iconst 0, 1) := by decide +kernel
theorem dX4_errands_38 : decode cX4_errands 38 = .ok (.istore 7, 2) := by decide +kernel
theorem dX4_errands_40 : decode cX4_errands 40 = .ok (.iload 7, 2) := by decide +kernel
theorem dX4_errands_42 : decode cX4_errands 42 = .ok (.aload 4, 2) := by decide +kernel
theorem dX4_errands_44 : decode cX4_errands 44 = .ok (.getfield 261, 3) := by decide +kernel
theorem dX4_errands_47 : decode cX4_errands 47 = .ok (.if_icmp .ge 56, 3) := by decide +kernel
theorem dX4_errands_50 : decode cX4_errands 50 = .ok (.aload 4, 2) := by decide +kernel
theorem dX4_errands_52 : decode cX4_errands 52 = .ok (.iload 7, 2) := by decide +kernel
theorem dX4_errands_54 : decode cX4_errands 54 = .ok (.invokevirtual 264, 3) := by decide +kernel
theorem dX4_errands_57 : decode cX4_errands 57 = .ok (.istore 8, 2) := by decide +kernel
theorem dX4_errands_59 : decode cX4_errands 59 = .ok (.iload 5, 2) := by decide +kernel
theorem dX4_errands_61 : decode cX4_errands 61 = .ok (.iload 7, 2) := by decide +kernel
theorem dX4_errands_63 : decode cX4_errands 63 = .ok (.ishr, 1) := by decide +kernel
theorem dX4_errands_64 : decode cX4_errands 64 = .ok (.iconst 1, 1) := by decide +kernel
theorem dX4_errands_65 : decode cX4_errands 65 = .ok (.iand, 1) := by decide +kernel
theorem dX4_errands_66 : decode cX4_errands 66 = .ok (.iconst 1, 1) := by decide +kernel
theorem dX4_errands_67 : decode cX4_errands 67 = .ok (.if_icmp .ne 30, 3) := by decide +kernel
theorem dX4_errands_70 : decode cX4_errands 70 = .ok (.aload_n 0, 1) := by decide +kernel
theorem dX4_errands_71 : decode cX4_errands 71 = .ok (.getfield 10, 3) := by decide +kernel
theorem dX4_errands_74 : decode cX4_errands 74 = .ok (.iload 8, 2) := by decide +kernel
theorem dX4_errands_76 : decode cX4_errands 76 = .ok (.invokevirtual 158, 3) := by decide +kernel
theorem dX4_errands_79 : decode cX4_errands 79 = .ok (.ifCond .eq 18, 3) := by decide +kernel
theorem dX4_errands_82 : decode cX4_errands 82 = .ok (.iload 6, 2) := by decide +kernel
theorem dX4_errands_84 : decode cX4_errands 84 = .ok (.aload_n 0, 1) := by decide +kernel
theorem dX4_errands_85 : decode cX4_errands 85 = .ok (.getfield 10, 3) := by decide +kernel
theorem dX4_errands_88 : decode cX4_errands 88 = .ok (.getfield 161, 3) := by decide +kernel
theorem dX4_errands_91 : decode cX4_errands 91 = .ok (.iload 8, 2) := by decide +kernel
theorem dX4_errands_93 : decode cX4_errands 93 = .ok (.iaload, 1) := by decide +kernel
theorem dX4_errands_94 : decode cX4_errands 94 = .ok (.iadd, 1) := by decide +kernel
theorem dX4_errands_95 : decode cX4_errands 95 = .ok (.istore 6, 2) := by decide +kernel
theorem dX4_errands_97 : decode cX4_errands 97 = .ok (.iinc 7 1, 3) := by decide +kernel
theorem dX4_errands_100 : decode cX4_errands 100 = .ok (.goto (-60), 3) := by decide +kernel
theorem dX4_errands_103 : decode cX4_errands 103 = .ok (.iload 6, 2) := by decide +kernel
theorem dX4_errands_105 : decode cX4_errands 105 = .ok (.ireturn, 1) := by decide +kernel
theorem dX4_placed_0 : decode cX4_placed 0 = .ok (.aload_n 0, 1) := by decide +kernel
theorem dX4_placed_1 : decode cX4_placed 1 = .ok (.iload_n 1, 1) := by decide +kernel
theorem dX4_placed_2 : decode cX4_placed 2 = .ok (.iload_n 2, 1) := by decide +kernel
theorem dX4_placed_3 : decode cX4_placed 3 = .ok (.invokevirtual 254, 3) := by decide +kernel
theorem dX4_placed_6 : decode cX4_placed 6 = .ok (.istore_n 3, 1) := by decide +kernel
theorem dX4_placed_7 : decode cX4_placed 7 = .ok (.iload_n 3, 1) := by decide +kernel
theorem dX4_placed_8 : decode cX4_placed 8 = .ok (.ifCond .eq 11, 3) := by decide +kernel
theorem dX4_placed_11 : decode cX4_placed 11 = .ok (.aload_n 0, 1) := by decide +kernel
theorem dX4_placed_12 : decode cX4_placed 12 = .ok (.iload_n 3, 1) := by decide +kernel
theorem dX4_placed_13 : decode cX4_placed 13 = .ok (.invokevirtual 82, 3) := by decide +kernel
theorem dX4_placed_16 : decode cX4_placed 16 = .ok (.goto 14, 3) := by decide +kernel
theorem dX4_placed_19 : decode cX4_placed 19 = .ok (.aload_n 0, 1) := by decide +kernel
theorem dX4_placed_20 : decode cX4_placed 20 = .ok (.aload_n 0, 1) := by decide +kernel
theorem dX4_placed_21 : decode cX4_placed 21 = .ok (.getfield 24, 3) := by decide +kernel
theorem dX4_placed_24 : decode cX4_placed 24 = .ok (.iload_n 1, 1) := by decide +kernel
theorem dX4_placed_25 : decode cX4_placed 25 = .ok (.aaload, 1) := by decide +kernel
theorem dX4_placed_26 : decode cX4_placed 26 = .ok (.iload_n 2, 1) := by decide +kernel
theorem dX4_placed_27 : decode cX4_placed 27 = .ok (.invokevirtual 257, 3) := by decide +kernel
theorem dX4_placed_30 : decode cX4_placed 30 = .ok (.ireturn, 1) := by decide +kernel
theorem dX4_noErrands_0 : decode cX4_noErrands 0 = .ok (.aload_n 0, 1) := by decide +kernel
theorem dX4_noErrands_1 : decode cX4_noErrands 1 = .ok (.iload_n 1, 1) := by decide +kernel
theorem dX4_noErrands_2 : decode cX4_noErrands 2 = .ok (.invokevirtual 93, 3) := by decide +kernel
theorem dX4_noErrands_5 : decode cX4_noErrands 5 = .ok (.istore_n 3, 1) := by decide +kernel
theorem dX4_noErrands_6 : decode cX4_noErrands 6 = .ok (.iload_n 3, 1) := by decide +kernel
theorem dX4_noErrands_7 : decode cX4_noErrands 7 = .ok (.ifCond .eq 5, 3) := by decide +kernel
theorem dX4_noErrands_10 : decode cX4_noErrands 10 = .ok (.iload_n 3, 1) := by decide +kernel
theorem dX4_noErrands_11 : decode cX4_noErrands 11 = .ok (.ireturn, 1) := by decide +kernel
theorem dX4_noErrands_12 : decode cX4_noErrands 12 = .ok (.aload_n 0, 1) := by decide +kernel
theorem dX4_noErrands_13 : decode cX4_noErrands 13 = .ok (.getfield 24, 3) := by decide +kernel
theorem dX4_noErrands_16 : decode cX4_noErrands 16 = .ok (.iload_n 1, 1) := by decide +kernel
theorem dX4_noErrands_17 : decode cX4_noErrands 17 = .ok (.aaload, 1) := by decide +kernel
theorem dX4_noErrands_18 : decode cX4_noErrands 18 = .ok (.getfield 261, 3) := by decide +kernel
theorem dX4_noErrands_21 : decode cX4_noErrands 21 = .ok (.bipush 10, 2) := by decide +kernel
theorem dX4_noErrands_23 : decode cX4_noErrands 23 = .ok (.if_icmp .gt 13, 3) := by decide +kernel
theorem dX4_noErrands_26 : decode cX4_noErrands 26 = .ok (.iload_n 2, 1) := by decide +kernel
theorem dX4_noErrands_27 : decode cX4_noErrands 27 = .ok (.iconst 0, 1) := by decide +kernel
theorem dX4_noErrands_28 : decode cX4_noErrands 28 = .ok (.bipush 10, 2) := by decide +kernel
theorem dX4_noErrands_30 : decode cX4_noErrands 30 = .ok (.invokestatic 85, 3) := by decide +kernel
theorem dX4_noErrands_33 : decode cX4_noErrands 33 = .ok (.ifCond .ne 8, 3) := by decide +kernel
theorem dX4_noErrands_36 : decode cX4_noErrands 36 = .ok (.bipush (-6), 2) := by decide +kernel
theorem dX4_noErrands_38 : decode cX4_noErrands 38 = .ok (.goto 4, 3) := by decide +kernel
theorem dX4_noErrands_41 : decode cX4_noErrands 41 = .ok (.iconst 0, 1) := by decide +kernel
theorem dX4_noErrands_42 : decode cX4_noErrands 42 = .ok (.ireturn, 1) := by decide +kernel
theorem dX4_liesPlaced_0 : decode cX4_liesPlaced 0 = .ok (.aload_n 0, 1) := by decide +kernel
theorem dX4_liesPlaced_1 : decode cX4_liesPlaced 1 = .ok (.getfield 10, 3) := by decide +kernel
theorem dX4_liesPlaced_4 : decode cX4_liesPlaced 4 = .ok (.getfield 149, 3) := by decide +kernel
theorem dX4_liesPlaced_7 : decode cX4_liesPlaced 7 = .ok (.aload_n 0, 1) := by decide +kernel
theorem dX4_liesPlaced_8 : decode cX4_liesPlaced 8 = .ok (.getfield 10, 3) := by decide +kernel
theorem dX4_liesPlaced_11 : decode cX4_liesPlaced 11 = .ok (.getfield 152, 3) := by decide +kernel
theorem dX4_liesPlaced_14 : decode cX4_liesPlaced 14 = .ok (.isub, 1) := by decide +kernel
theorem dX4_liesPlaced_15 : decode cX4_liesPlaced 15 = .ok (.iload_n 2, 1) := by decide +kernel
theorem dX4_liesPlaced_16 : decode cX4_liesPlaced 16 = .ok (.isub, 1) := by decide +kernel
theorem dX4_liesPlaced_17 : decode cX4_liesPlaced 17 = .ok (.istore_n 3, 1) := by decide +kernel
theorem dX4_liesPlaced_18 : decode cX4_liesPlaced 18 = .ok (.iconst 0, 1) := by decide +kernel
theorem dX4_liesPlaced_19 : decode cX4_liesPlaced 19 = .ok (.istore 4, 2) := by decide +kernel
theorem dX4_liesPlaced_21 : decode cX4_liesPlaced 21 = .ok (.iconst 0, 1) := by decide +kernel
theorem dX4_liesPlaced_22 : decode cX4_liesPlaced 22 = .ok (.istore 5, 2) := by decide +kernel
theorem dX4_liesPlaced_24 : decode cX4_liesPlaced 24 = .ok (.iload 5, 2) := by decide +kernel
theorem dX4_liesPlaced_26 : decode cX4_liesPlaced 26 = .ok (.iload_n 3, 1) := by decide +kernel
theorem dX4_liesPlaced_27 : decode cX4_liesPlaced 27 = .ok (.if_icmp .ge 36, 3) := by decide +kernel
theorem dX4_liesPlaced_30 : decode cX4_liesPlaced 30 = .ok (.aload_n 0, 1) := by decide +kernel
theorem dX4_liesPlaced_31 : decode cX4_liesPlaced 31 = .ok (.aload_n 1, 1) := by decide +kernel
theorem dX4_liesPlaced_32 : decode cX4_liesPlaced 32 = .ok (.iload 4, 2) := by decide +kernel
theorem dX4_liesPlaced_34 : decode cX4_liesPlaced 34 = .ok (.invokevirtual 267, 3) := by decide +kernel
theorem dX4_liesPlaced_37 : decode cX4_liesPlaced 37 = .ok (.istore 6, 2) := by decide +kernel
theorem dX4_liesPlaced_39 : decode cX4_liesPlaced 39 = .ok (.iload 6, 2) := by decide +kernel
theorem dX4_liesPlaced_41 : decode cX4_liesPlaced 41 = .ok (.iconst (-1), 1) := by decide +kernel
theorem dX4_liesPlaced_42 : decode cX4_liesPlaced 42 = .ok (.if_icmp .ne 6, 3) := by decide +kernel
theorem dX4_liesPlaced_45 : decode cX4_liesPlaced 45 = .ok (.iload 4, 2) := by decide +kernel
theorem dX4_liesPlaced_47 : decode cX4_liesPlaced 47 = .ok (.ireturn, 1) := by decide +kernel
theorem dX4_liesPlaced_48 : decode cX4_liesPlaced 48 = .ok (.iload 4, 2) := by decide +kernel
theorem dX4_liesPlaced_50 : decode cX4_liesPlaced 50 = .ok (.iconst 1, 1) := by decide +kernel
theorem dX4_liesPlaced_51 : decode cX4_liesPlaced 51 = .ok (.iload 6, 2) := by decide +kernel
theorem dX4_liesPlaced_53 : decode cX4_liesPlaced 53 = .ok (.ishl, 1) := by decide +kernel
theorem dX4_liesPlaced_54 : decode cX4_liesPlaced 54 = .ok (.ior, 1) := by decide +kernel
theorem dX4_liesPlaced_55 : decode cX4_liesPlaced 55 = .ok (.istore 4, 2) := by decide +kernel
theorem dX4_liesPlaced_57 : decode cX4_liesPlaced 57 = .ok (.iinc 5 1, 3) := by decide +kernel
theorem dX4_liesPlaced_60 : decode cX4_liesPlaced 60 = .ok (.goto (-36), 3) := by decide +kernel
theorem dX4_liesPlaced_63 : decode cX4_liesPlaced 63 = .ok (.iload 4, 2) := by decide +kernel
theorem dX4_liesPlaced_65 : decode cX4_liesPlaced 65 = .ok (.ireturn, 1) := by decide +kernel
theorem dX4_leastHarmful_0 : decode cX4_leastHarmful 0 = .ok (.iconst (-1), 1) := by decide +kernel
theorem dX4_leastHarmful_1 : decode cX4_leastHarmful 1 = .ok (.istore_n 3, 1) := by decide +kernel
theorem dX4_leastHarmful_2 : decode cX4_leastHarmful 2 = .ok (.iconst 0, 1) := by decide +kernel
theorem dX4_leastHarmful_3 : decode cX4_leastHarmful 3 = .ok (.istore 4, 2) := by decide +kernel
theorem dX4_leastHarmful_5 : decode cX4_leastHarmful 5 = .ok (.iconst 0, 1) := by decide +kernel
theorem dX4_leastHarmful_6 : decode cX4_leastHarmful 6 = .ok (.istore 5, 2) := by decide +kernel
theorem dX4_leastHarmful_8 : decode cX4_leastHarmful 8 = .ok (.iload 5, 2) := by decide +kernel
theorem dX4_leastHarmful_10 : decode cX4_leastHarmful 10 = .ok (.aload_n 1, 1) := by decide +kernel
theorem dX4_leastHarmful_11 : decode cX4_leastHarmful 11 = .ok (.getfield 261, 3) := by decide +kernel
theorem dX4_leastHarmful_14 : decode cX4_leastHarmful 14 = .ok (.if_icmp .ge 73, 3) := by decide +kernel
theorem dX4_leastHarmful_17 : decode cX4_leastHarmful 17 = .ok (.aload_n 1, 1) := by decide +kernel
theorem dX4_leastHarmful_18 : decode cX4_leastHarmful 18 = .ok (.iload 5, 2) := by decide +kernel
theorem dX4_leastHarmful_20 : decode cX4_leastHarmful 20 = .ok (.invokevirtual 264, 3) := by decide +kernel
theorem dX4_leastHarmful_23 : decode cX4_leastHarmful 23 = .ok (.istore 6, 2) := by decide +kernel
theorem dX4_leastHarmful_25 : decode cX4_leastHarmful 25 = .ok (.iload_n 2, 1) := by decide +kernel
theorem dX4_leastHarmful_26 : decode cX4_leastHarmful 26 = .ok (.iload 5, 2) := by decide +kernel
theorem dX4_leastHarmful_28 : decode cX4_leastHarmful 28 = .ok (.ishr, 1) := by decide +kernel
theorem dX4_leastHarmful_29 : decode cX4_leastHarmful 29 = .ok (.iconst 1, 1) := by decide +kernel
theorem dX4_leastHarmful_30 : decode cX4_leastHarmful 30 = .ok (.iand, 1) := by decide +kernel
theorem dX4_leastHarmful_31 : decode cX4_leastHarmful 31 = .ok (.ifCond .ne 50, 3) := by decide +kernel
theorem dX4_leastHarmful_34 : decode cX4_leastHarmful 34 = .ok (.aload_n 0, 1) := by decide +kernel
theorem dX4_leastHarmful_35 : decode cX4_leastHarmful 35 = .ok (.getfield 10, 3) := by decide +kernel
theorem dX4_leastHarmful_38 : decode cX4_leastHarmful 38 = .ok (.iload 6, 2) := by decide +kernel
theorem dX4_leastHarmful_40 : decode cX4_leastHarmful 40 = .ok (.invokevirtual 158, 3) := by decide +kernel
theorem dX4_leastHarmful_43 : decode cX4_leastHarmful 43 = .ok (.ifCond .eq 38, 3) := by decide +kernel
theorem dX4_leastHarmful_46 : decode cX4_leastHarmful 46 = .ok (.iload_n 3, 1) := by decide +kernel
theorem dX4_leastHarmful_47 : decode cX4_leastHarmful 47 = .ok (.iconst (-1), 1) := by decide +kernel
theorem dX4_leastHarmful_48 : decode cX4_leastHarmful 48 = .ok (.if_icmp .eq 18, 3) := by decide +kernel
theorem dX4_leastHarmful_51 : decode cX4_leastHarmful 51 = .ok (.aload_n 0, 1) := by decide +kernel
theorem dX4_leastHarmful_52 : decode cX4_leastHarmful 52 = .ok (.getfield 10, 3) := by decide +kernel
theorem dX4_leastHarmful_55 : decode cX4_leastHarmful 55 = .ok (.getfield 161, 3) := by decide +kernel
theorem dX4_leastHarmful_58 : decode cX4_leastHarmful 58 = .ok (.iload 6, 2) := by decide +kernel
theorem dX4_leastHarmful_60 : decode cX4_leastHarmful 60 = .ok (.iaload, 1) := by decide +kernel
theorem dX4_leastHarmful_61 : decode cX4_leastHarmful 61 = .ok (.iload 4, 2) := by decide +kernel
theorem dX4_leastHarmful_63 : decode cX4_leastHarmful 63 = .ok (.if_icmp .ge 18, 3) := by decide +kernel
theorem dX4_leastHarmful_66 : decode cX4_leastHarmful 66 = .ok (.iload 5, 2) := by decide +kernel
theorem dX4_leastHarmful_68 : decode cX4_leastHarmful 68 = .ok (.istore_n 3, 1) := by decide +kernel
theorem dX4_leastHarmful_69 : decode cX4_leastHarmful 69 = .ok (.aload_n 0, 1) := by decide +kernel
theorem dX4_leastHarmful_70 : decode cX4_leastHarmful 70 = .ok (.getfield 10, 3) := by decide +kernel
theorem dX4_leastHarmful_73 : decode cX4_leastHarmful 73 = .ok (.getfield 161, 3) := by decide +kernel
theorem dX4_leastHarmful_76 : decode cX4_leastHarmful 76 = .ok (.iload 6, 2) := by decide +kernel
theorem dX4_leastHarmful_78 : decode cX4_leastHarmful 78 = .ok (.iaload, 1) := by decide +kernel
theorem dX4_leastHarmful_79 : decode cX4_leastHarmful 79 = .ok (.istore 4, 2) := by decide +kernel
theorem dX4_leastHarmful_81 : decode cX4_leastHarmful 81 = .ok (.iinc 5 1, 3) := by decide +kernel
theorem dX4_leastHarmful_84 : decode cX4_leastHarmful 84 = .ok (.goto (-76), 3) := by decide +kernel
theorem dX4_leastHarmful_87 : decode cX4_leastHarmful 87 = .ok (.iload_n 3, 1) := by decide +kernel
theorem dX4_leastHarmful_88 : decode cX4_leastHarmful 88 = .ok (.ireturn, 1) := by decide +kernel
theorem dX4_trust_0 : decode cX4_trust 0 = .ok (.aload_n 0, 1) := by decide +kernel
theorem dX4_trust_1 : decode cX4_trust 1 = .ok (.getfield 10, 3) := by decide +kernel
theorem dX4_trust_4 : decode cX4_trust 4 = .ok (.iload_n 1, 1) := by decide +kernel
theorem dX4_trust_5 : decode cX4_trust 5 = .ok (.invokevirtual 119, 3) := by decide +kernel
theorem dX4_trust_8 : decode cX4_trust 8 = .ok (.ifCond .ne 12, 3) := by decide +kernel
theorem dX4_trust_11 : decode cX4_trust 11 = .ok (.aload_n 0, 1) := by decide +kernel
theorem dX4_trust_12 : decode cX4_trust 12 = .ok (.iconst (-1), 1) := by decide +kernel
theorem dX4_trust_13 : decode cX4_trust 13 = .ok (.ldc_w 270, 3) := by decide +kernel
theorem dX4_trust_16 : decode cX4_trust 16 = .ok (.invokevirtual 55, 3) := by decide +kernel
theorem dX4_trust_19 : decode cX4_trust 19 = .ok (.ireturn, 1) := by decide +kernel
theorem dX4_trust_20 : decode cX4_trust 20 = .ok (.aload_n 0, 1) := by decide +kernel
theorem dX4_trust_21 : decode cX4_trust 21 = .ok (.getfield 10, 3) := by decide +kernel
theorem dX4_trust_24 : decode cX4_trust 24 = .ok (.iload_n 1, 1) := by decide +kernel
theorem dX4_trust_25 : decode cX4_trust 25 = .ok (.invokevirtual 164, 3) := by decide +kernel
theorem dX4_trust_28 : decode cX4_trust 28 = .ok (.ifCond .eq 13, 3) := by decide +kernel
theorem dX4_trust_31 : decode cX4_trust 31 = .ok (.aload_n 0, 1) := by decide +kernel
theorem dX4_trust_32 : decode cX4_trust 32 = .ok (.bipush (-6), 2) := by decide +kernel
theorem dX4_trust_34 : decode cX4_trust 34 = .ok (.ldc_w 271, 3) := by decide +kernel
theorem dX4_trust_37 : decode cX4_trust 37 = .ok (.invokevirtual 55, 3) := by decide +kernel
theorem dX4_trust_40 : decode cX4_trust 40 = .ok (.ireturn, 1) := by decide +kernel
theorem dX4_trust_41 : decode cX4_trust 41 = .ok (.aload_n 0, 1) := by decide +kernel
theorem dX4_trust_42 : decode cX4_trust 42 = .ok (.getfield 10, 3) := by decide +kernel
theorem dX4_trust_45 : decode cX4_trust 45 = .ok (.ldc2_w 63, 3) := by decide +kernel
theorem dX4_trust_48 : decode cX4_trust 48 = .ok (.invokevirtual 167, 3) := by decide +kernel
theorem dX4_trust_51 : decode cX4_trust 51 = .ok (.lstore_n 2, 1) := by decide +kernel
theorem dX4_trust_52 : decode cX4_trust 52 = .ok (.aload_n 0, 1) := by decide +kernel
theorem dX4_trust_53 : decode cX4_trust 53 = .ok (.getfield 10, 3) := by decide +kernel
theorem dX4_trust_56 : decode cX4_trust 56 = .ok (.iload_n 1, 1) := by decide +kernel
theorem dX4_trust_57 : decode cX4_trust 57 = .ok (.invokevirtual 272, 3) := by decide +kernel
theorem dX4_trust_60 : decode cX4_trust 60 = .ok (.ifCond .ne 32, 3) := by decide +kernel
theorem dX4_trust_63 : decode cX4_trust 63 = .ok (.aload_n 0, 1) := by decide +kernel
theorem dX4_trust_64 : decode cX4_trust 64 = .ok (.getfield 10, 3) := by decide +kernel
theorem dX4_trust_67 : decode cX4_trust 67 = .ok (.iload_n 1, 1) := by decide +kernel
theorem dX4_trust_68 : decode cX4_trust 68 = .ok (.aload_n 0, 1) := by decide +kernel
theorem dX4_trust_69 : decode cX4_trust 69 = .ok (.getfield 10, 3) := by decide +kernel
theorem dX4_trust_72 : decode cX4_trust 72 = .ok (.getfield 127, 3) := by decide +kernel
theorem dX4_trust_75 : decode cX4_trust 75 = .ok (.iload_n 1, 1) := by decide +kernel
theorem dX4_trust_76 : decode cX4_trust 76 = .ok (.iaload, 1) := by decide +kernel
theorem dX4_trust_77 : decode cX4_trust 77 = .ok (.invokevirtual 130, 3) := by decide +kernel
theorem dX4_trust_80 : decode cX4_trust 80 = .ok (.ifCond .eq 10, 3) := by decide +kernel
theorem dX4_trust_83 : decode cX4_trust 83 = .ok (.lload_n 2, 1) := by decide +kernel
theorem dX4_trust_84 : decode cX4_trust 84 = .ok (.invokestatic 178, 3) := by decide +kernel
theorem dX4_trust_87 : decode cX4_trust 87 = .ok (.goto 4, 3) := by decide +kernel
theorem dX4_trust_90 : decode cX4_trust 90 = .ok (.iconst 0, 1) := by decide +kernel
theorem dX4_trust_91 : decode cX4_trust 91 = .ok (.ireturn, 1) := by decide +kernel
theorem dX4_trust_92 : decode cX4_trust 92 = .ok (.lload_n 2, 1) := by decide +kernel
theorem dX4_trust_93 : decode cX4_trust 93 = .ok (.aload_n 0, 1) := by decide +kernel
theorem dX4_trust_94 : decode cX4_trust 94 = .ok (.getfield 10, 3) := by decide +kernel
theorem dX4_trust_97 : decode cX4_trust 97 = .ok (.iload_n 1, 1) := by decide +kernel
theorem dX4_trust_98 : decode cX4_trust 98 = .ok (.iconst 1, 1) := by decide +kernel
theorem dX4_trust_99 : decode cX4_trust 99 = .ok (.invokevirtual 275, 3) := by decide +kernel
theorem dX4_trust_102 : decode cX4_trust 102 = .ok (.land, 1) := by decide +kernel
theorem dX4_trust_103 : decode cX4_trust 103 = .ok (.lstore 4, 2) := by decide +kernel
theorem dX4_trust_105 : decode cX4_trust 105 = .ok (.lload_n 2, 1) := by decide +kernel
theorem dX4_trust_106 : decode cX4_trust 106 = .ok (.aload_n 0, 1) := by decide +kernel
theorem dX4_trust_107 : decode cX4_trust 107 = .ok (.getfield 10, 3) := by decide +kernel
theorem dX4_trust_110 : decode cX4_trust 110 = .ok (.iload_n 1, 1) := by decide +kernel
theorem dX4_trust_111 : decode cX4_trust 111 = .ok (.iconst 0, 1) := by decide +kernel
theorem dX4_trust_112 : decode cX4_trust 112 = .ok (.invokevirtual 275, 3) := by decide +kernel
theorem dX4_trust_115 : decode cX4_trust 115 = .ok (.land, 1) := by decide +kernel
theorem dX4_trust_116 : decode cX4_trust 116 = .ok (.lstore 6, 2) := by decide +kernel
theorem dX4_trust_118 : decode cX4_trust 118 = .ok (.lload 4, 2) := by decide +kernel
theorem dX4_trust_120 : decode cX4_trust 120 = .ok (.invokestatic 178, 3) := by decide +kernel
theorem dX4_trust_123 : decode cX4_trust 123 = .ok (.lload 6, 2) := by decide +kernel
theorem dX4_trust_125 : decode cX4_trust 125 = .ok (.invokestatic 178, 3) := by decide +kernel
theorem dX4_trust_128 : decode cX4_trust 128 = .ok (.isub, 1) := by decide +kernel
theorem dX4_trust_129 : decode cX4_trust 129 = .ok (.ireturn, 1) := by decide +kernel
theorem dX4_witness_0 : decode cX4_witness 0 = .ok (.iconst (-1), 1) := by decide +kernel
theorem dX4_witness_1 : decode cX4_witness 1 = .ok (.istore_n 1, 1) := by decide +kernel
theorem dX4_witness_2 : decode cX4_witness 2 = .ok (.iconst 0, 1) := by decide +kernel
theorem dX4_witness_3 : decode cX4_witness 3 = .ok (.istore_n 2, 1) := by decide +kernel
theorem dX4_witness_4 : decode cX4_witness 4 = .ok (.iconst 0, 1) := by decide +kernel
theorem dX4_witness_5 : decode cX4_witness 5 = .ok (.istore_n 3, 1) := by decide +kernel
theorem dX4_witness_6 : decode cX4_witness 6 = .ok (.iload_n 3, 1) := by decide +kernel
theorem dX4_witness_7 : decode cX4_witness 7 = .ok (.aload_n 0, 1) := by decide +kernel
theorem dX4_witness_8 : decode cX4_witness 8 = .ok (.getfield 10, 3) := by decide +kernel
theorem dX4_witness_11 : decode cX4_witness 11 = .ok (.getfield 140, 3) := by decide +kernel
theorem dX4_witness_14 : decode cX4_witness 14 = .ok (.if_icmp .ge 38, 3) := by decide +kernel
theorem dX4_witness_17 : decode cX4_witness 17 = .ok (.aload_n 0, 1) := by decide +kernel
theorem dX4_witness_18 : decode cX4_witness 18 = .ok (.getfield 10, 3) := by decide +kernel
theorem dX4_witness_21 : decode cX4_witness 21 = .ok (.iload_n 3, 1) := by decide +kernel
theorem dX4_witness_22 : decode cX4_witness 22 = .ok (.invokevirtual 278, 3) := by decide +kernel
theorem dX4_witness_25 : decode cX4_witness 25 = .ok (.invokestatic 178, 3) := by decide +kernel
theorem dX4_witness_28 : decode cX4_witness 28 = .ok (.istore 4, 2) := by decide +kernel
theorem dX4_witness_30 : decode cX4_witness 30 = .ok (.iload_n 1, 1) := by decide +kernel
theorem dX4_witness_31 : decode cX4_witness 31 = .ok (.iconst (-1), 1) := by decide +kernel
theorem dX4_witness_32 : decode cX4_witness 32 = .ok (.if_icmp .eq 9, 3) := by decide +kernel
theorem dX4_witness_35 : decode cX4_witness 35 = .ok (.iload 4, 2) := by decide +kernel
theorem dX4_witness_37 : decode cX4_witness 37 = .ok (.iload_n 2, 1) := by decide +kernel
theorem dX4_witness_38 : decode cX4_witness 38 = .ok (.if_icmp .le 8, 3) := by decide +kernel
theorem dX4_witness_41 : decode cX4_witness 41 = .ok (.iload_n 3, 1) := by decide +kernel
theorem dX4_witness_42 : decode cX4_witness 42 = .ok (.istore_n 1, 1) := by decide +kernel
theorem dX4_witness_43 : decode cX4_witness 43 = .ok (.iload 4, 2) := by decide +kernel
theorem dX4_witness_45 : decode cX4_witness 45 = .ok (.istore_n 2, 1) := by decide +kernel
theorem dX4_witness_46 : decode cX4_witness 46 = .ok (.iinc 3 1, 3) := by decide +kernel
theorem dX4_witness_49 : decode cX4_witness 49 = .ok (.goto (-43), 3) := by decide +kernel
theorem dX4_witness_52 : decode cX4_witness 52 = .ok (.iload_n 1, 1) := by decide +kernel
theorem dX4_witness_53 : decode cX4_witness 53 = .ok (.iconst (-1), 1) := by decide +kernel
theorem dX4_witness_54 : decode cX4_witness 54 = .ok (.if_icmp .ne 12, 3) := by decide +kernel
theorem dX4_witness_57 : decode cX4_witness 57 = .ok (.aload_n 0, 1) := by decide +kernel
theorem dX4_witness_58 : decode cX4_witness 58 = .ok (.bipush (-5), 2) := by decide +kernel
theorem dX4_witness_60 : decode cX4_witness 60 = .ok (.invokevirtual 82, 3) := by decide +kernel
theorem dX4_witness_63 : decode cX4_witness 63 = .ok (.goto 4, 3) := by decide +kernel
theorem dX4_witness_66 : decode cX4_witness 66 = .ok (.iload_n 1, 1) := by decide +kernel
theorem dX4_witness_67 : decode cX4_witness 67 = .ok (.ireturn, 1) := by decide +kernel
theorem dX4_judge_0 : decode cX4_judge 0 = .ok (.aload_n 0, 1) := by decide +kernel
theorem dX4_judge_1 : decode cX4_judge 1 = .ok (.iload_n 1, 1) := by decide +kernel
theorem dX4_judge_2 : decode cX4_judge 2 = .ok (.invokevirtual 93, 3) := by decide +kernel
theorem dX4_judge_5 : decode cX4_judge 5 = .ok (.istore_n 3, 1) := by decide +kernel
theorem dX4_judge_6 : decode cX4_judge 6 = .ok (.iload_n 3, 1) := by decide +kernel
theorem dX4_judge_7 : decode cX4_judge 7 = .ok (.ifCond .eq 9, 3) := by decide +kernel
theorem dX4_judge_10 : decode cX4_judge 10 = .ok (.aload_n 0, 1) := by decide +kernel
theorem dX4_judge_11 : decode cX4_judge 11 = .ok (.iload_n 3, 1) := by decide +kernel
theorem dX4_judge_12 : decode cX4_judge 12 = .ok (.invokevirtual 82, 3) := by decide +kernel
theorem dX4_judge_15 : decode cX4_judge 15 = .ok (.ireturn, 1) := by decide +kernel
theorem dX4_judge_16 : decode cX4_judge 16 = .ok (.iload_n 2, 1) := by decide +kernel
theorem dX4_judge_17 : decode cX4_judge 17 = .ok (.ifCond .ge 10, 3) := by decide +kernel
theorem dX4_judge_20 : decode cX4_judge 20 = .ok (.aload_n 0, 1) := by decide +kernel
theorem dX4_judge_21 : decode cX4_judge 21 = .ok (.bipush (-4), 2) := by decide +kernel
theorem dX4_judge_23 : decode cX4_judge 23 = .ok (.invokevirtual 82, 3) := by decide +kernel
theorem dX4_judge_26 : decode cX4_judge 26 = .ok (.ireturn, 1) := by decide +kernel
theorem dX4_judge_27 : decode cX4_judge 27 = .ok (.iload_n 2, 1) := by decide +kernel
theorem dX4_judge_28 : decode cX4_judge 28 = .ok (.aload_n 0, 1) := by decide +kernel
theorem dX4_judge_29 : decode cX4_judge 29 = .ok (.getfield 24, 3) := by decide +kernel
theorem dX4_judge_32 : decode cX4_judge 32 = .ok (.iload_n 1, 1) := by decide +kernel
theorem dX4_judge_33 : decode cX4_judge 33 = .ok (.aaload, 1) := by decide +kernel
theorem dX4_judge_34 : decode cX4_judge 34 = .ok (.getfield 261, 3) := by decide +kernel
theorem dX4_judge_37 : decode cX4_judge 37 = .ok (.if_icmp .le 10, 3) := by decide +kernel
theorem dX4_judge_40 : decode cX4_judge 40 = .ok (.aload_n 0, 1) := by decide +kernel
theorem dX4_judge_41 : decode cX4_judge 41 = .ok (.bipush (-5), 2) := by decide +kernel
theorem dX4_judge_43 : decode cX4_judge 43 = .ok (.invokevirtual 82, 3) := by decide +kernel
theorem dX4_judge_46 : decode cX4_judge 46 = .ok (.ireturn, 1) := by decide +kernel
theorem dX4_judge_47 : decode cX4_judge 47 = .ok (.iload_n 2, 1) := by decide +kernel
theorem dX4_judge_48 : decode cX4_judge 48 = .ok (.bipush 24, 2) := by decide +kernel
theorem dX4_judge_50 : decode cX4_judge 50 = .ok (.if_icmp .le 10, 3) := by decide +kernel
theorem dX4_judge_53 : decode cX4_judge 53 = .ok (.aload_n 0, 1) := by decide +kernel
theorem dX4_judge_54 : decode cX4_judge 54 = .ok (.bipush (-6), 2) := by decide +kernel
theorem dX4_judge_56 : decode cX4_judge 56 = .ok (.invokevirtual 82, 3) := by decide +kernel
theorem dX4_judge_59 : decode cX4_judge 59 = .ok (.ireturn, 1) := by decide +kernel
theorem dX4_judge_60 : decode cX4_judge 60 = .ok (.aload_n 0, 1) := by decide +kernel
theorem dX4_judge_61 : decode cX4_judge 61 = .ok (.getfield 19, 3) := by decide +kernel
theorem dX4_judge_64 : decode cX4_judge 64 = .ok (.aload_n 0, 1) := by decide +kernel
theorem dX4_judge_65 : decode cX4_judge 65 = .ok (.getfield 10, 3) := by decide +kernel
theorem dX4_judge_68 : decode cX4_judge 68 = .ok (.invokevirtual 202, 3) := by decide +kernel
theorem dX4_judge_71 : decode cX4_judge 71 = .ok (.aload_n 0, 1) := by decide +kernel
theorem dX4_judge_72 : decode cX4_judge 72 = .ok (.getfield 19, 3) := by decide +kernel
theorem dX4_judge_75 : decode cX4_judge 75 = .ok (.ldc2_w 63, 3) := by decide +kernel
theorem dX4_judge_78 : decode cX4_judge 78 = .ok (.invokevirtual 167, 3) := by decide +kernel
theorem dX4_judge_81 : decode cX4_judge 81 = .ok (.lstore 4, 2) := by decide +kernel
theorem dX4_judge_83 : decode cX4_judge 83 = .ok (.iconst 0, 1) := by decide +kernel
theorem dX4_judge_84 : decode cX4_judge 84 = .ok (.istore 6, 2) := by decide +kernel
theorem dX4_judge_86 : decode cX4_judge 86 = .ok (.iload 6, 2) := by decide +kernel
theorem dX4_judge_88 : decode cX4_judge 88 = .ok (.iload_n 2, 1) := by decide +kernel
theorem dX4_judge_89 : decode cX4_judge 89 = .ok (.if_icmp .ge 38, 3) := by decide +kernel
theorem dX4_judge_92 : decode cX4_judge 92 = .ok (.aload_n 0, 1) := by decide +kernel
theorem dX4_judge_93 : decode cX4_judge 93 = .ok (.aload_n 0, 1) := by decide +kernel
theorem dX4_judge_94 : decode cX4_judge 94 = .ok (.getfield 24, 3) := by decide +kernel
theorem dX4_judge_97 : decode cX4_judge 97 = .ok (.iload_n 1, 1) := by decide +kernel
theorem dX4_judge_98 : decode cX4_judge 98 = .ok (.aaload, 1) := by decide +kernel
theorem dX4_judge_99 : decode cX4_judge 99 = .ok (.iload 6, 2) := by decide +kernel
theorem dX4_judge_101 : decode cX4_judge 101 = .ok (.invokevirtual 264, 3) := by decide +kernel
theorem dX4_judge_104 : decode cX4_judge 104 = .ok (.lload 4, 2) := by decide +kernel
theorem dX4_judge_106 : decode cX4_judge 106 = .ok (.invokevirtual 282, 3) := by decide +kernel
theorem dX4_judge_109 : decode cX4_judge 109 = .ok (.lstore 4, 2) := by decide +kernel
theorem dX4_judge_111 : decode cX4_judge 111 = .ok (.lload 4, 2) := by decide +kernel
theorem dX4_judge_113 : decode cX4_judge 113 = .ok (.lconst 0, 1) := by decide +kernel
theorem dX4_judge_114 : decode cX4_judge 114 = .ok (.lcmp, 1) := by decide +kernel
theorem dX4_judge_115 : decode cX4_judge 115 = .ok (.ifCond .ne 6, 3) := by decide +kernel
theorem dX4_judge_118 : decode cX4_judge 118 = .ok (.iload 6, 2) := by decide +kernel
theorem dX4_judge_120 : decode cX4_judge 120 = .ok (.ireturn, 1) := by decide +kernel
theorem dX4_judge_121 : decode cX4_judge 121 = .ok (.iinc 6 1, 3) := by decide +kernel
theorem dX4_judge_124 : decode cX4_judge 124 = .ok (.goto (-38), 3) := by decide +kernel
theorem dX4_judge_127 : decode cX4_judge 127 = .ok (.iconst (-1), 1) := by decide +kernel
theorem dX4_judge_128 : decode cX4_judge 128 = .ok (.ireturn, 1) := by decide +kernel
theorem dX4_toldAfter_0 : decode cX4_toldAfter 0 = .ok (.iload_n 1, 1) := by decide +kernel
theorem dX4_toldAfter_1 : decode cX4_toldAfter 1 = .ok (.bipush 100, 2) := by decide +kernel
theorem dX4_toldAfter_3 : decode cX4_toldAfter 3 = .ok (.idiv, 1) := by decide +kernel
theorem dX4_toldAfter_4 : decode cX4_toldAfter 4 = .ok (.istore 4, 2) := by decide +kernel
theorem dX4_toldAfter_6 : decode cX4_toldAfter 6 = .ok (.iload_n 1, 1) := by decide +kernel
theorem dX4_toldAfter_7 : decode cX4_toldAfter 7 = .ok (.bipush 10, 2) := by decide +kernel
theorem dX4_toldAfter_9 : decode cX4_toldAfter 9 = .ok (.idiv, 1) := by decide +kernel
theorem dX4_toldAfter_10 : decode cX4_toldAfter 10 = .ok (.bipush 10, 2) := by decide +kernel
theorem dX4_toldAfter_12 : decode cX4_toldAfter 12 = .ok (.irem, 1) := by decide +kernel
theorem dX4_toldAfter_13 : decode cX4_toldAfter 13 = .ok (.istore 5, 2) := by decide +kernel
theorem dX4_toldAfter_15 : decode cX4_toldAfter 15 = .ok (.iload_n 1, 1) := by decide +kernel
theorem dX4_toldAfter_16 : decode cX4_toldAfter 16 = .ok (.bipush 10, 2) := by decide +kernel
theorem dX4_toldAfter_18 : decode cX4_toldAfter 18 = .ok (.irem, 1) := by decide +kernel
theorem dX4_toldAfter_19 : decode cX4_toldAfter 19 = .ok (.istore 6, 2) := by decide +kernel
theorem dX4_toldAfter_21 : decode cX4_toldAfter 21 = .ok (.iload_n 1, 1) := by decide +kernel
theorem dX4_toldAfter_22 : decode cX4_toldAfter 22 = .ok (.ifCond .lt 45, 3) := by decide +kernel
theorem dX4_toldAfter_25 : decode cX4_toldAfter 25 = .ok (.iload 6, 2) := by decide +kernel
theorem dX4_toldAfter_27 : decode cX4_toldAfter 27 = .ok (.iconst 1, 1) := by decide +kernel
theorem dX4_toldAfter_28 : decode cX4_toldAfter 28 = .ok (.if_icmp .gt 39, 3) := by decide +kernel
theorem dX4_toldAfter_31 : decode cX4_toldAfter 31 = .ok (.aload_n 0, 1) := by decide +kernel
theorem dX4_toldAfter_32 : decode cX4_toldAfter 32 = .ok (.getfield 19, 3) := by decide +kernel
theorem dX4_toldAfter_35 : decode cX4_toldAfter 35 = .ok (.iload 5, 2) := by decide +kernel
theorem dX4_toldAfter_37 : decode cX4_toldAfter 37 = .ok (.invokevirtual 158, 3) := by decide +kernel
theorem dX4_toldAfter_40 : decode cX4_toldAfter 40 = .ok (.ifCond .eq 27, 3) := by decide +kernel
theorem dX4_toldAfter_43 : decode cX4_toldAfter 43 = .ok (.aload_n 0, 1) := by decide +kernel
theorem dX4_toldAfter_44 : decode cX4_toldAfter 44 = .ok (.getfield 19, 3) := by decide +kernel
theorem dX4_toldAfter_47 : decode cX4_toldAfter 47 = .ok (.iload 4, 2) := by decide +kernel
theorem dX4_toldAfter_49 : decode cX4_toldAfter 49 = .ok (.invokevirtual 119, 3) := by decide +kernel
theorem dX4_toldAfter_52 : decode cX4_toldAfter 52 = .ok (.ifCond .eq 15, 3) := by decide +kernel
theorem dX4_toldAfter_55 : decode cX4_toldAfter 55 = .ok (.aload_n 0, 1) := by decide +kernel
theorem dX4_toldAfter_56 : decode cX4_toldAfter 56 = .ok (.getfield 19, 3) := by decide +kernel
theorem dX4_toldAfter_59 : decode cX4_toldAfter 59 = .ok (.iload 4, 2) := by decide +kernel
theorem dX4_toldAfter_61 : decode cX4_toldAfter 61 = .ok (.invokevirtual 164, 3) := by decide +kernel
theorem dX4_toldAfter_64 : decode cX4_toldAfter 64 = .ok (.ifCond .eq 5, 3) := by decide +kernel
theorem dX4_toldAfter_67 : decode cX4_toldAfter 67 = .ok (.lconst 0, 1) := by decide +kernel
theorem dX4_toldAfter_68 : decode cX4_toldAfter 68 = .ok (.lreturn, 1) := by decide +kernel
theorem dX4_toldAfter_69 : decode cX4_toldAfter 69 = .ok (.aload_n 0, 1) := by decide +kernel
theorem dX4_toldAfter_70 : decode cX4_toldAfter 70 = .ok (.getfield 19, 3) := by decide +kernel
theorem dX4_toldAfter_73 : decode cX4_toldAfter 73 = .ok (.iload 4, 2) := by decide +kernel
theorem dX4_toldAfter_75 : decode cX4_toldAfter 75 = .ok (.iload 5, 2) := by decide +kernel
theorem dX4_toldAfter_77 : decode cX4_toldAfter 77 = .ok (.iload 6, 2) := by decide +kernel
theorem dX4_toldAfter_79 : decode cX4_toldAfter 79 = .ok (.iconst 1, 1) := by decide +kernel
theorem dX4_toldAfter_80 : decode cX4_toldAfter 80 = .ok (.if_icmp .ne 7, 3) := by decide +kernel
theorem dX4_toldAfter_83 : decode cX4_toldAfter 83 = .ok (.iconst 1, 1) := by decide +kernel
theorem dX4_toldAfter_84 : decode cX4_toldAfter 84 = .ok (.goto 4, 3) := by decide +kernel
theorem dX4_toldAfter_87 : decode cX4_toldAfter 87 = .ok (.iconst 0, 1) := by decide +kernel
theorem dX4_toldAfter_88 : decode cX4_toldAfter 88 = .ok (.invokevirtual 175, 3) := by decide +kernel
theorem dX4_toldAfter_91 : decode cX4_toldAfter 91 = .ok (.lload_n 2, 1) := by decide +kernel
theorem dX4_toldAfter_92 : decode cX4_toldAfter 92 = .ok (.aload_n 0, 1) := by decide +kernel
theorem dX4_toldAfter_93 : decode cX4_toldAfter 93 = .ok (.getfield 19, 3) := by decide +kernel
theorem dX4_toldAfter_96 : decode cX4_toldAfter 96 = .ok (.iload 4, 2) := by decide +kernel
theorem dX4_toldAfter_98 : decode cX4_toldAfter 98 = .ok (.ldc2_w 63, 3) := by decide +kernel
theorem dX4_toldAfter_101 : decode cX4_toldAfter 101 = .ok (.invokevirtual 216, 3) := by decide +kernel
theorem dX4_toldAfter_104 : decode cX4_toldAfter 104 = .ok (.land, 1) := by decide +kernel
theorem dX4_toldAfter_105 : decode cX4_toldAfter 105 = .ok (.lreturn, 1) := by decide +kernel
theorem dX4_sunset_0 : decode cX4_sunset 0 = .ok (.aload_n 0, 1) := by decide +kernel
theorem dX4_sunset_1 : decode cX4_sunset 1 = .ok (.getfield 10, 3) := by decide +kernel
theorem dX4_sunset_4 : decode cX4_sunset 4 = .ok (.aload_n 0, 1) := by decide +kernel
theorem dX4_sunset_5 : decode cX4_sunset 5 = .ok (.getfield 10, 3) := by decide +kernel
theorem dX4_sunset_8 : decode cX4_sunset 8 = .ok (.ldc2_w 63, 3) := by decide +kernel
theorem dX4_sunset_11 : decode cX4_sunset 11 = .ok (.invokevirtual 167, 3) := by decide +kernel
theorem dX4_sunset_14 : decode cX4_sunset 14 = .ok (.putfield 198, 3) := by decide +kernel
theorem dX4_sunset_17 : decode cX4_sunset 17 = .ok (.aload_n 0, 1) := by decide +kernel
theorem dX4_sunset_18 : decode cX4_sunset 18 = .ok (.getfield 10, 3) := by decide +kernel
theorem dX4_sunset_21 : decode cX4_sunset 21 = .ok (.invokevirtual 285, 3) := by decide +kernel
theorem dX4_sunset_24 : decode cX4_sunset 24 = .ok (.aload_n 0, 1) := by decide +kernel
theorem dX4_sunset_25 : decode cX4_sunset 25 = .ok (.getfield 10, 3) := by decide +kernel
theorem dX4_sunset_28 : decode cX4_sunset 28 = .ok (.dup, 1) := by decide +kernel
theorem dX4_sunset_29 : decode cX4_sunset 29 = .ok (.getfield 288, 3) := by decide +kernel
theorem dX4_sunset_32 : decode cX4_sunset 32 = .ok (.iconst 1, 1) := by decide +kernel
theorem dX4_sunset_33 : decode cX4_sunset 33 = .ok (.iadd, 1) := by decide +kernel
theorem dX4_sunset_34 : decode cX4_sunset 34 = .ok (.putfield 288, 3) := by decide +kernel
theorem dX4_sunset_37 : decode cX4_sunset 37 = .ok (.aload_n 0, 1) := by decide +kernel
theorem dX4_sunset_38 : decode cX4_sunset 38 = .ok (.getfield 10, 3) := by decide +kernel
theorem dX4_sunset_41 : decode cX4_sunset 41 = .ok (.getfield 198, 3) := by decide +kernel
theorem dX4_sunset_44 : decode cX4_sunset 44 = .ok (.invokestatic 178, 3) := by decide +kernel
theorem dX4_sunset_47 : decode cX4_sunset 47 = .ok (.ireturn, 1) := by decide +kernel
theorem dX4_draw_0 : decode cX4_draw 0 = .ok (.aload_n 0, 1) := by decide +kernel
theorem dX4_draw_1 : decode cX4_draw 1 = .ok (.getfield 10, 3) := by decide +kernel
theorem dX4_draw_4 : decode cX4_draw 4 = .ok (.ldc2_w 63, 3) := by decide +kernel
theorem dX4_draw_7 : decode cX4_draw 7 = .ok (.invokevirtual 167, 3) := by decide +kernel
theorem dX4_draw_10 : decode cX4_draw 10 = .ok (.lstore_n 1, 1) := by decide +kernel
theorem dX4_draw_11 : decode cX4_draw 11 = .ok (.lload_n 1, 1) := by decide +kernel
theorem dX4_draw_12 : decode cX4_draw 12 = .ok (.invokestatic 178, 3) := by decide +kernel
theorem dX4_draw_15 : decode cX4_draw 15 = .ok (.istore_n 3, 1) := by decide +kernel
theorem dX4_draw_16 : decode cX4_draw 16 = .ok (.aload_n 0, 1) := by decide +kernel
theorem dX4_draw_17 : decode cX4_draw 17 = .ok (.getfield 10, 3) := by decide +kernel
theorem dX4_draw_20 : decode cX4_draw 20 = .ok (.iload_n 3, 1) := by decide +kernel
theorem dX4_draw_21 : decode cX4_draw 21 = .ok (.invokevirtual 291, 3) := by decide +kernel
theorem dX4_draw_24 : decode cX4_draw 24 = .ok (.istore 4, 2) := by decide +kernel
theorem dX4_draw_26 : decode cX4_draw 26 = .ok (.iconst 0, 1) := by decide +kernel
theorem dX4_draw_27 : decode cX4_draw 27 = .ok (.istore 5, 2) := by decide +kernel
theorem dX4_draw_29 : decode cX4_draw 29 = .ok (.iload 5, 2) := by decide +kernel
theorem dX4_draw_31 : decode cX4_draw 31 = .ok (.bipush 64, 2) := by decide +kernel
theorem dX4_draw_33 : decode cX4_draw 33 = .ok (.if_icmp .ge 36, 3) := by decide +kernel
theorem dX4_draw_36 : decode cX4_draw 36 = .ok (.lload_n 1, 1) := by decide +kernel
theorem dX4_draw_37 : decode cX4_draw 37 = .ok (.iload 5, 2) := by decide +kernel
theorem dX4_draw_39 : decode cX4_draw 39 = .ok (.invokestatic 220, 3) := by decide +kernel
theorem dX4_draw_42 : decode cX4_draw 42 = .ok (.iconst 1, 1) := by decide +kernel
theorem dX4_draw_43 : decode cX4_draw 43 = .ok (.if_icmp .ne 20, 3) := by decide +kernel
theorem dX4_draw_46 : decode cX4_draw 46 = .ok (.iload 4, 2) := by decide +kernel
theorem dX4_draw_48 : decode cX4_draw 48 = .ok (.ifCond .ne 12, 3) := by decide +kernel
theorem dX4_draw_51 : decode cX4_draw 51 = .ok (.aload_n 0, 1) := by decide +kernel
theorem dX4_draw_52 : decode cX4_draw 52 = .ok (.getfield 10, 3) := by decide +kernel
theorem dX4_draw_55 : decode cX4_draw 55 = .ok (.iload 5, 2) := by decide +kernel
theorem dX4_draw_57 : decode cX4_draw 57 = .ok (.putfield 294, 3) := by decide +kernel
theorem dX4_draw_60 : decode cX4_draw 60 = .ok (.iinc 4 (-1), 3) := by decide +kernel
theorem dX4_draw_63 : decode cX4_draw 63 = .ok (.iinc 5 1, 3) := by decide +kernel
theorem dX4_draw_66 : decode cX4_draw 66 = .ok (.goto (-37), 3) := by decide +kernel
theorem dX4_draw_69 : decode cX4_draw 69 = .ok (.iload_n 3, 1) := by decide +kernel
theorem dX4_draw_70 : decode cX4_draw 70 = .ok (.ireturn, 1) := by decide +kernel
theorem dX4_ask_0 : decode cX4_ask 0 = .ok (.aload_n 0, 1) := by decide +kernel
theorem dX4_ask_1 : decode cX4_ask 1 = .ok (.getfield 10, 3) := by decide +kernel
theorem dX4_ask_4 : decode cX4_ask 4 = .ok (.iload_n 1, 1) := by decide +kernel
theorem dX4_ask_5 : decode cX4_ask 5 = .ok (.invokevirtual 119, 3) := by decide +kernel
theorem dX4_ask_8 : decode cX4_ask 8 = .ok (.ifCond .eq 14, 3) := by decide +kernel
theorem dX4_ask_11 : decode cX4_ask 11 = .ok (.aload_n 0, 1) := by decide +kernel
theorem dX4_ask_12 : decode cX4_ask 12 = .ok (.getfield 10, 3) := by decide +kernel
theorem dX4_ask_15 : decode cX4_ask 15 = .ok (.iload_n 2, 1) := by decide +kernel
theorem dX4_ask_16 : decode cX4_ask 16 = .ok (.invokevirtual 158, 3) := by decide +kernel
theorem dX4_ask_19 : decode cX4_ask 19 = .ok (.ifCond .ne 9, 3) := by decide +kernel
theorem dX4_ask_22 : decode cX4_ask 22 = .ok (.aload_n 0, 1) := by decide +kernel
theorem dX4_ask_23 : decode cX4_ask 23 = .ok (.iconst (-1), 1) := by decide +kernel
theorem dX4_ask_24 : decode cX4_ask 24 = .ok (.invokevirtual 82, 3) := by decide +kernel
theorem dX4_ask_27 : decode cX4_ask 27 = .ok (.ireturn, 1) := by decide +kernel
theorem dX4_ask_28 : decode cX4_ask 28 = .ok (.aload_n 0, 1) := by decide +kernel
theorem dX4_ask_29 : decode cX4_ask 29 = .ok (.getfield 10, 3) := by decide +kernel
theorem dX4_ask_32 : decode cX4_ask 32 = .ok (.iload_n 1, 1) := by decide +kernel
theorem dX4_ask_33 : decode cX4_ask 33 = .ok (.invokevirtual 164, 3) := by decide +kernel
theorem dX4_ask_36 : decode cX4_ask 36 = .ok (.ifCond .ne 14, 3) := by decide +kernel
theorem dX4_ask_39 : decode cX4_ask 39 = .ok (.aload_n 0, 1) := by decide +kernel
theorem dX4_ask_40 : decode cX4_ask 40 = .ok (.getfield 10, 3) := by decide +kernel
theorem dX4_ask_43 : decode cX4_ask 43 = .ok (.getfield 294, 3) := by decide +kernel
theorem dX4_ask_46 : decode cX4_ask 46 = .ok (.iconst (-1), 1) := by decide +kernel
theorem dX4_ask_47 : decode cX4_ask 47 = .ok (.if_icmp .ne 10, 3) := by decide +kernel
theorem dX4_ask_50 : decode cX4_ask 50 = .ok (.aload_n 0, 1) := by decide +kernel
theorem dX4_ask_51 : decode cX4_ask 51 = .ok (.bipush (-6), 2) := by decide +kernel
theorem dX4_ask_53 : decode cX4_ask 53 = .ok (.invokevirtual 82, 3) := by decide +kernel
theorem dX4_ask_56 : decode cX4_ask 56 = .ok (.ireturn, 1) := by decide +kernel
theorem dX4_ask_57 : decode cX4_ask 57 = .ok (.aload_n 0, 1) := by decide +kernel
theorem dX4_ask_58 : decode cX4_ask 58 = .ok (.getfield 10, 3) := by decide +kernel
theorem dX4_ask_61 : decode cX4_ask 61 = .ok (.getfield 297, 3) := by decide +kernel
theorem dX4_ask_64 : decode cX4_ask 64 = .ok (.istore_n 3, 1) := by decide +kernel
theorem dX4_ask_65 : decode cX4_ask 65 = .ok (.aload_n 0, 1) := by decide +kernel
theorem dX4_ask_66 : decode cX4_ask 66 = .ok (.iload_n 1, 1) := by decide +kernel
theorem dX4_ask_67 : decode cX4_ask 67 = .ok (.invokevirtual 300, 3) := by decide +kernel
theorem dX4_ask_70 : decode cX4_ask 70 = .ok (.istore 4, 2) := by decide +kernel
theorem dX4_ask_72 : decode cX4_ask 72 = .ok (.getstatic 59, 3) := by decide +kernel
theorem dX4_ask_75 : decode cX4_ask 75 = .ok (.iload_n 2, 1) := by decide +kernel
theorem dX4_ask_76 : decode cX4_ask 76 = .ok (.laload, 1) := by decide +kernel
theorem dX4_ask_77 : decode cX4_ask 77 = .ok (.aload_n 0, 1) := by decide +kernel
theorem dX4_ask_78 : decode cX4_ask 78 = .ok (.getfield 10, 3) := by decide +kernel
theorem dX4_ask_81 : decode cX4_ask 81 = .ok (.getfield 294, 3) := by decide +kernel
theorem dX4_ask_84 : decode cX4_ask 84 = .ok (.invokestatic 220, 3) := by decide +kernel
theorem dX4_ask_87 : decode cX4_ask 87 = .ok (.iload 4, 2) := by decide +kernel
theorem dX4_ask_89 : decode cX4_ask 89 = .ok (.if_icmp .ne 7, 3) := by decide +kernel
theorem dX4_ask_92 : decode cX4_ask 92 = .ok (.iconst 1, 1) := by decide +kernel
theorem dX4_ask_93 : decode cX4_ask 93 = .ok (.goto 4, 3) := by decide +kernel
theorem dX4_ask_96 : decode cX4_ask 96 = .ok (.iconst 0, 1) := by decide +kernel
theorem dX4_ask_97 : decode cX4_ask 97 = .ok (.istore 5, 2) := by decide +kernel
theorem dX4_ask_99 : decode cX4_ask 99 = .ok (.iload 4, 2) := by decide +kernel
theorem dX4_ask_101 : decode cX4_ask 101 = .ok (.iconst (-1), 1) := by decide +kernel
theorem dX4_ask_102 : decode cX4_ask 102 = .ok (.if_icmp .eq 29, 3) := by decide +kernel
theorem dX4_ask_105 : decode cX4_ask 105 = .ok (.aload_n 0, 1) := by decide +kernel
theorem dX4_ask_106 : decode cX4_ask 106 = .ok (.getfield 10, 3) := by decide +kernel
theorem dX4_ask_109 : decode cX4_ask 109 = .ok (.iload_n 1, 1) := by decide +kernel
theorem dX4_ask_110 : decode cX4_ask 110 = .ok (.iload_n 2, 1) := by decide +kernel
theorem dX4_ask_111 : decode cX4_ask 111 = .ok (.iload 5, 2) := by decide +kernel
theorem dX4_ask_113 : decode cX4_ask 113 = .ok (.aload_n 0, 1) := by decide +kernel
theorem dX4_ask_114 : decode cX4_ask 114 = .ok (.getfield 10, 3) := by decide +kernel
theorem dX4_ask_117 : decode cX4_ask 117 = .ok (.ldc2_w 63, 3) := by decide +kernel
theorem dX4_ask_120 : decode cX4_ask 120 = .ok (.invokevirtual 167, 3) := by decide +kernel
theorem dX4_ask_123 : decode cX4_ask 123 = .ok (.invokevirtual 171, 3) := by decide +kernel
theorem dX4_ask_126 : decode cX4_ask 126 = .ok (.lconst 0, 1) := by decide +kernel
theorem dX4_ask_127 : decode cX4_ask 127 = .ok (.lcmp, 1) := by decide +kernel
theorem dX4_ask_128 : decode cX4_ask 128 = .ok (.ifCond .ne 18, 3) := by decide +kernel
theorem dX4_ask_131 : decode cX4_ask 131 = .ok (.aload_n 0, 1) := by decide +kernel
theorem dX4_ask_132 : decode cX4_ask 132 = .ok (.getfield 10, 3) := by decide +kernel
theorem dX4_ask_135 : decode cX4_ask 135 = .ok (.iload_n 3, 1) := by decide +kernel
theorem dX4_ask_136 : decode cX4_ask 136 = .ok (.putfield 297, 3) := by decide +kernel
theorem dX4_ask_139 : decode cX4_ask 139 = .ok (.aload_n 0, 1) := by decide +kernel
theorem dX4_ask_140 : decode cX4_ask 140 = .ok (.bipush (-6), 2) := by decide +kernel
theorem dX4_ask_142 : decode cX4_ask 142 = .ok (.invokevirtual 82, 3) := by decide +kernel
theorem dX4_ask_145 : decode cX4_ask 145 = .ok (.ireturn, 1) := by decide +kernel
theorem dX4_ask_146 : decode cX4_ask 146 = .ok (.aload_n 0, 1) := by decide +kernel
theorem dX4_ask_147 : decode cX4_ask 147 = .ok (.getfield 10, 3) := by decide +kernel
theorem dX4_ask_150 : decode cX4_ask 150 = .ok (.getfield 146, 3) := by decide +kernel
theorem dX4_ask_153 : decode cX4_ask 153 = .ok (.bipush 24, 2) := by decide +kernel
theorem dX4_ask_155 : decode cX4_ask 155 = .ok (.if_icmp .lt 18, 3) := by decide +kernel
theorem dX4_ask_158 : decode cX4_ask 158 = .ok (.aload_n 0, 1) := by decide +kernel
theorem dX4_ask_159 : decode cX4_ask 159 = .ok (.getfield 10, 3) := by decide +kernel
theorem dX4_ask_162 : decode cX4_ask 162 = .ok (.iload_n 3, 1) := by decide +kernel
theorem dX4_ask_163 : decode cX4_ask 163 = .ok (.putfield 297, 3) := by decide +kernel
theorem dX4_ask_166 : decode cX4_ask 166 = .ok (.aload_n 0, 1) := by decide +kernel
theorem dX4_ask_167 : decode cX4_ask 167 = .ok (.bipush (-7), 2) := by decide +kernel
theorem dX4_ask_169 : decode cX4_ask 169 = .ok (.invokevirtual 82, 3) := by decide +kernel
theorem dX4_ask_172 : decode cX4_ask 172 = .ok (.ireturn, 1) := by decide +kernel
theorem dX4_ask_173 : decode cX4_ask 173 = .ok (.aload_n 0, 1) := by decide +kernel
theorem dX4_ask_174 : decode cX4_ask 174 = .ok (.getfield 10, 3) := by decide +kernel
theorem dX4_ask_177 : decode cX4_ask 177 = .ok (.iload_n 1, 1) := by decide +kernel
theorem dX4_ask_178 : decode cX4_ask 178 = .ok (.iload_n 2, 1) := by decide +kernel
theorem dX4_ask_179 : decode cX4_ask 179 = .ok (.iload 5, 2) := by decide +kernel
theorem dX4_ask_181 : decode cX4_ask 181 = .ok (.invokevirtual 175, 3) := by decide +kernel
theorem dX4_ask_184 : decode cX4_ask 184 = .ok (.iload 5, 2) := by decide +kernel
theorem dX4_ask_186 : decode cX4_ask 186 = .ok (.ifCond .eq 7, 3) := by decide +kernel
theorem dX4_ask_189 : decode cX4_ask 189 = .ok (.iconst 1, 1) := by decide +kernel
theorem dX4_ask_190 : decode cX4_ask 190 = .ok (.goto 4, 3) := by decide +kernel
theorem dX4_ask_193 : decode cX4_ask 193 = .ok (.iconst 0, 1) := by decide +kernel
theorem dX4_ask_194 : decode cX4_ask 194 = .ok (.ireturn, 1) := by decide +kernel
theorem dX4_truthInTruth_0 : decode cX4_truthInTruth 0 = .ok (.aload_n 0, 1) := by decide +kernel
theorem dX4_truthInTruth_1 : decode cX4_truthInTruth 1 = .ok (.getfield 10, 3) := by decide +kernel
theorem dX4_truthInTruth_4 : decode cX4_truthInTruth 4 = .ok (.iload_n 1, 1) := by decide +kernel
theorem dX4_truthInTruth_5 : decode cX4_truthInTruth 5 = .ok (.invokevirtual 272, 3) := by decide +kernel
theorem dX4_truthInTruth_8 : decode cX4_truthInTruth 8 = .ok (.ifCond .ne 29, 3) := by decide +kernel
theorem dX4_truthInTruth_11 : decode cX4_truthInTruth 11 = .ok (.aload_n 0, 1) := by decide +kernel
theorem dX4_truthInTruth_12 : decode cX4_truthInTruth 12 = .ok (.getfield 10, 3) := by decide +kernel
theorem dX4_truthInTruth_15 : decode cX4_truthInTruth 15 = .ok (.iload_n 1, 1) := by decide +kernel
theorem dX4_truthInTruth_16 : decode cX4_truthInTruth 16 = .ok (.aload_n 0, 1) := by decide +kernel
theorem dX4_truthInTruth_17 : decode cX4_truthInTruth 17 = .ok (.getfield 10, 3) := by decide +kernel
theorem dX4_truthInTruth_20 : decode cX4_truthInTruth 20 = .ok (.getfield 127, 3) := by decide +kernel
theorem dX4_truthInTruth_23 : decode cX4_truthInTruth 23 = .ok (.iload_n 1, 1) := by decide +kernel
theorem dX4_truthInTruth_24 : decode cX4_truthInTruth 24 = .ok (.iaload, 1) := by decide +kernel
theorem dX4_truthInTruth_25 : decode cX4_truthInTruth 25 = .ok (.invokevirtual 130, 3) := by decide +kernel
theorem dX4_truthInTruth_28 : decode cX4_truthInTruth 28 = .ok (.ifCond .eq 7, 3) := by decide +kernel
theorem dX4_truthInTruth_31 : decode cX4_truthInTruth 31 = .ok (.iconst 1, 1) := by decide +kernel
theorem dX4_truthInTruth_32 : decode cX4_truthInTruth 32 = .ok (.goto 4, 3) := by decide +kernel
theorem dX4_truthInTruth_35 : decode cX4_truthInTruth 35 = .ok (.iconst 0, 1) := by decide +kernel
theorem dX4_truthInTruth_36 : decode cX4_truthInTruth 36 = .ok (.ireturn, 1) := by decide +kernel
theorem dX4_truthInTruth_37 : decode cX4_truthInTruth 37 = .ok (.aload_n 0, 1) := by decide +kernel
theorem dX4_truthInTruth_38 : decode cX4_truthInTruth 38 = .ok (.getfield 10, 3) := by decide +kernel
theorem dX4_truthInTruth_41 : decode cX4_truthInTruth 41 = .ok (.iload_n 1, 1) := by decide +kernel
theorem dX4_truthInTruth_42 : decode cX4_truthInTruth 42 = .ok (.iconst 1, 1) := by decide +kernel
theorem dX4_truthInTruth_43 : decode cX4_truthInTruth 43 = .ok (.invokevirtual 275, 3) := by decide +kernel
theorem dX4_truthInTruth_46 : decode cX4_truthInTruth 46 = .ok (.aload_n 0, 1) := by decide +kernel
theorem dX4_truthInTruth_47 : decode cX4_truthInTruth 47 = .ok (.getfield 10, 3) := by decide +kernel
theorem dX4_truthInTruth_50 : decode cX4_truthInTruth 50 = .ok (.getfield 294, 3) := by decide +kernel
theorem dX4_truthInTruth_53 : decode cX4_truthInTruth 53 = .ok (.invokestatic 220, 3) := by decide +kernel
theorem dX4_truthInTruth_56 : decode cX4_truthInTruth 56 = .ok (.istore_n 2, 1) := by decide +kernel
theorem dX4_truthInTruth_57 : decode cX4_truthInTruth 57 = .ok (.aload_n 0, 1) := by decide +kernel
theorem dX4_truthInTruth_58 : decode cX4_truthInTruth 58 = .ok (.getfield 10, 3) := by decide +kernel
theorem dX4_truthInTruth_61 : decode cX4_truthInTruth 61 = .ok (.iload_n 1, 1) := by decide +kernel
theorem dX4_truthInTruth_62 : decode cX4_truthInTruth 62 = .ok (.iconst 0, 1) := by decide +kernel
theorem dX4_truthInTruth_63 : decode cX4_truthInTruth 63 = .ok (.invokevirtual 275, 3) := by decide +kernel
theorem dX4_truthInTruth_66 : decode cX4_truthInTruth 66 = .ok (.aload_n 0, 1) := by decide +kernel
theorem dX4_truthInTruth_67 : decode cX4_truthInTruth 67 = .ok (.getfield 10, 3) := by decide +kernel
theorem dX4_truthInTruth_70 : decode cX4_truthInTruth 70 = .ok (.getfield 294, 3) := by decide +kernel
theorem dX4_truthInTruth_73 : decode cX4_truthInTruth 73 = .ok (.invokestatic 220, 3) := by decide +kernel
theorem dX4_truthInTruth_76 : decode cX4_truthInTruth 76 = .ok (.istore_n 3, 1) := by decide +kernel
theorem dX4_truthInTruth_77 : decode cX4_truthInTruth 77 = .ok (.iload_n 2, 1) := by decide +kernel
theorem dX4_truthInTruth_78 : decode cX4_truthInTruth 78 = .ok (.iconst 1, 1) := by decide +kernel
theorem dX4_truthInTruth_79 : decode cX4_truthInTruth 79 = .ok (.if_icmp .ne 17, 3) := by decide +kernel
theorem dX4_truthInTruth_82 : decode cX4_truthInTruth 82 = .ok (.iload_n 3, 1) := by decide +kernel
theorem dX4_truthInTruth_83 : decode cX4_truthInTruth 83 = .ok (.iconst 1, 1) := by decide +kernel
theorem dX4_truthInTruth_84 : decode cX4_truthInTruth 84 = .ok (.if_icmp .ne 12, 3) := by decide +kernel
theorem dX4_truthInTruth_87 : decode cX4_truthInTruth 87 = .ok (.aload_n 0, 1) := by decide +kernel
theorem dX4_truthInTruth_88 : decode cX4_truthInTruth 88 = .ok (.getfield 10, 3) := by decide +kernel
theorem dX4_truthInTruth_91 : decode cX4_truthInTruth 91 = .ok (.iconst 2, 1) := by decide +kernel
theorem dX4_truthInTruth_92 : decode cX4_truthInTruth 92 = .ok (.invokevirtual 291, 3) := by decide +kernel
theorem dX4_truthInTruth_95 : decode cX4_truthInTruth 95 = .ok (.ireturn, 1) := by decide +kernel
theorem dX4_truthInTruth_96 : decode cX4_truthInTruth 96 = .ok (.iload_n 2, 1) := by decide +kernel
theorem dX4_truthInTruth_97 : decode cX4_truthInTruth 97 = .ok (.ifCond .ne 9, 3) := by decide +kernel
theorem dX4_truthInTruth_100 : decode cX4_truthInTruth 100 = .ok (.iload_n 3, 1) := by decide +kernel
theorem dX4_truthInTruth_101 : decode cX4_truthInTruth 101 = .ok (.ifCond .ne 5, 3) := by decide +kernel
theorem dX4_truthInTruth_104 : decode cX4_truthInTruth 104 = .ok (.iconst (-1), 1) := by decide +kernel
theorem dX4_truthInTruth_105 : decode cX4_truthInTruth 105 = .ok (.ireturn, 1) := by decide +kernel
theorem dX4_truthInTruth_106 : decode cX4_truthInTruth 106 = .ok (.iload_n 2, 1) := by decide +kernel
theorem dX4_truthInTruth_107 : decode cX4_truthInTruth 107 = .ok (.ireturn, 1) := by decide +kernel
theorem dX4_truly_0 : decode cX4_truly 0 = .ok (.aload_n 0, 1) := by decide +kernel
theorem dX4_truly_1 : decode cX4_truly 1 = .ok (.getfield 10, 3) := by decide +kernel
theorem dX4_truly_4 : decode cX4_truly 4 = .ok (.iload_n 1, 1) := by decide +kernel
theorem dX4_truly_5 : decode cX4_truly 5 = .ok (.invokevirtual 213, 3) := by decide +kernel
theorem dX4_truly_8 : decode cX4_truly 8 = .ok (.ifCond .ne 9, 3) := by decide +kernel
theorem dX4_truly_11 : decode cX4_truly 11 = .ok (.aload_n 0, 1) := by decide +kernel
theorem dX4_truly_12 : decode cX4_truly 12 = .ok (.iconst (-1), 1) := by decide +kernel
theorem dX4_truly_13 : decode cX4_truly 13 = .ok (.invokevirtual 82, 3) := by decide +kernel
theorem dX4_truly_16 : decode cX4_truly 16 = .ok (.ireturn, 1) := by decide +kernel
theorem dX4_truly_17 : decode cX4_truly 17 = .ok (.aload_n 0, 1) := by decide +kernel
theorem dX4_truly_18 : decode cX4_truly 18 = .ok (.getfield 10, 3) := by decide +kernel
theorem dX4_truly_21 : decode cX4_truly 21 = .ok (.getfield 294, 3) := by decide +kernel
theorem dX4_truly_24 : decode cX4_truly 24 = .ok (.iconst (-1), 1) := by decide +kernel
theorem dX4_truly_25 : decode cX4_truly 25 = .ok (.if_icmp .ne 10, 3) := by decide +kernel
theorem dX4_truly_28 : decode cX4_truly 28 = .ok (.aload_n 0, 1) := by decide +kernel
theorem dX4_truly_29 : decode cX4_truly 29 = .ok (.bipush (-6), 2) := by decide +kernel
theorem dX4_truly_31 : decode cX4_truly 31 = .ok (.invokevirtual 82, 3) := by decide +kernel
theorem dX4_truly_34 : decode cX4_truly 34 = .ok (.ireturn, 1) := by decide +kernel
theorem dX4_truly_35 : decode cX4_truly 35 = .ok (.aload_n 0, 1) := by decide +kernel
theorem dX4_truly_36 : decode cX4_truly 36 = .ok (.getfield 10, 3) := by decide +kernel
theorem dX4_truly_39 : decode cX4_truly 39 = .ok (.getfield 294, 3) := by decide +kernel
theorem dX4_truly_42 : decode cX4_truly 42 = .ok (.iload_n 1, 1) := by decide +kernel
theorem dX4_truly_43 : decode cX4_truly 43 = .ok (.if_icmp .ne 7, 3) := by decide +kernel
theorem dX4_truly_46 : decode cX4_truly 46 = .ok (.iconst 1, 1) := by decide +kernel
theorem dX4_truly_47 : decode cX4_truly 47 = .ok (.goto 4, 3) := by decide +kernel
theorem dX4_truly_50 : decode cX4_truly 50 = .ok (.iconst 0, 1) := by decide +kernel
theorem dX4_truly_51 : decode cX4_truly 51 = .ok (.ireturn, 1) := by decide +kernel
theorem dX4_seed_0 : decode cX4_seed 0 = .ok (.aload_n 0, 1) := by decide +kernel
theorem dX4_seed_1 : decode cX4_seed 1 = .ok (.getfield 10, 3) := by decide +kernel
theorem dX4_seed_4 : decode cX4_seed 4 = .ok (.getfield 297, 3) := by decide +kernel
theorem dX4_seed_7 : decode cX4_seed 7 = .ok (.istore_n 2, 1) := by decide +kernel
theorem dX4_seed_8 : decode cX4_seed 8 = .ok (.aload_n 0, 1) := by decide +kernel
theorem dX4_seed_9 : decode cX4_seed 9 = .ok (.getfield 10, 3) := by decide +kernel
theorem dX4_seed_12 : decode cX4_seed 12 = .ok (.iload_n 1, 1) := by decide +kernel
theorem dX4_seed_13 : decode cX4_seed 13 = .ok (.putfield 297, 3) := by decide +kernel
theorem dX4_seed_16 : decode cX4_seed 16 = .ok (.iload_n 2, 1) := by decide +kernel
theorem dX4_seed_17 : decode cX4_seed 17 = .ok (.ireturn, 1) := by decide +kernel
theorem dX4_act_0 : decode cX4_act 0 = .ok (.aload_n 0, 1) := by decide +kernel
theorem dX4_act_1 : decode cX4_act 1 = .ok (.getfield 38, 3) := by decide +kernel
theorem dX4_act_4 : decode cX4_act 4 = .ok (.invokevirtual 303, 3) := by decide +kernel
theorem dX4_act_7 : decode cX4_act 7 = .ok (.aload_n 0, 1) := by decide +kernel
theorem dX4_act_8 : decode cX4_act 8 = .ok (.getfield 10, 3) := by decide +kernel
theorem dX4_act_11 : decode cX4_act 11 = .ok (.iload_n 1, 1) := by decide +kernel
theorem dX4_act_12 : decode cX4_act 12 = .ok (.invokevirtual 119, 3) := by decide +kernel
theorem dX4_act_15 : decode cX4_act 15 = .ok (.ifCond .eq 12, 3) := by decide +kernel
theorem dX4_act_18 : decode cX4_act 18 = .ok (.iload_n 2, 1) := by decide +kernel
theorem dX4_act_19 : decode cX4_act 19 = .ok (.iconst 0, 1) := by decide +kernel
theorem dX4_act_20 : decode cX4_act 20 = .ok (.iconst 2, 1) := by decide +kernel
theorem dX4_act_21 : decode cX4_act 21 = .ok (.invokestatic 85, 3) := by decide +kernel
theorem dX4_act_24 : decode cX4_act 24 = .ok (.ifCond .ne 5, 3) := by decide +kernel
theorem dX4_act_27 : decode cX4_act 27 = .ok (.iconst 0, 1) := by decide +kernel
theorem dX4_act_28 : decode cX4_act 28 = .ok (.ireturn, 1) := by decide +kernel
theorem dX4_act_29 : decode cX4_act 29 = .ok (.aload_n 0, 1) := by decide +kernel
theorem dX4_act_30 : decode cX4_act 30 = .ok (.getfield 38, 3) := by decide +kernel
theorem dX4_act_33 : decode cX4_act 33 = .ok (.aload_n 0, 1) := by decide +kernel
theorem dX4_act_34 : decode cX4_act 34 = .ok (.getfield 10, 3) := by decide +kernel
theorem dX4_act_37 : decode cX4_act 37 = .ok (.getfield 121, 3) := by decide +kernel
theorem dX4_act_40 : decode cX4_act 40 = .ok (.iload_n 1, 1) := by decide +kernel
theorem dX4_act_41 : decode cX4_act 41 = .ok (.iaload, 1) := by decide +kernel
theorem dX4_act_42 : decode cX4_act 42 = .ok (.iload_n 1, 1) := by decide +kernel
theorem dX4_act_43 : decode cX4_act 43 = .ok (.aload_n 0, 1) := by decide +kernel
theorem dX4_act_44 : decode cX4_act 44 = .ok (.getfield 10, 3) := by decide +kernel
theorem dX4_act_47 : decode cX4_act 47 = .ok (.getfield 155, 3) := by decide +kernel
theorem dX4_act_50 : decode cX4_act 50 = .ok (.iload_n 1, 1) := by decide +kernel
theorem dX4_act_51 : decode cX4_act 51 = .ok (.iaload, 1) := by decide +kernel
theorem dX4_act_52 : decode cX4_act 52 = .ok (.iload_n 2, 1) := by decide +kernel
theorem dX4_act_53 : decode cX4_act 53 = .ok (.iload_n 3, 1) := by decide +kernel
theorem dX4_act_54 : decode cX4_act 54 = .ok (.invokevirtual 306, 3) := by decide +kernel
theorem dX4_act_57 : decode cX4_act 57 = .ok (.ireturn, 1) := by decide +kernel
theorem dX4_trace_0 : decode cX4_trace 0 = .ok (.iload_n 1, 1) := by decide +kernel
theorem dX4_trace_1 : decode cX4_trace 1 = .ok (.ifCond .lt 32, 3) := by decide +kernel
theorem dX4_trace_4 : decode cX4_trace 4 = .ok (.iload_n 1, 1) := by decide +kernel
theorem dX4_trace_5 : decode cX4_trace 5 = .ok (.bipush 20, 2) := by decide +kernel
theorem dX4_trace_7 : decode cX4_trace 7 = .ok (.if_icmp .ge 26, 3) := by decide +kernel
theorem dX4_trace_10 : decode cX4_trace 10 = .ok (.iload_n 1, 1) := by decide +kernel
theorem dX4_trace_11 : decode cX4_trace 11 = .ok (.aload_n 0, 1) := by decide +kernel
theorem dX4_trace_12 : decode cX4_trace 12 = .ok (.getfield 38, 3) := by decide +kernel
theorem dX4_trace_15 : decode cX4_trace 15 = .ok (.getfield 310, 3) := by decide +kernel
theorem dX4_trace_18 : decode cX4_trace 18 = .ok (.if_icmp .ge 15, 3) := by decide +kernel
theorem dX4_trace_21 : decode cX4_trace 21 = .ok (.aload_n 0, 1) := by decide +kernel
theorem dX4_trace_22 : decode cX4_trace 22 = .ok (.getfield 38, 3) := by decide +kernel
theorem dX4_trace_25 : decode cX4_trace 25 = .ok (.getfield 313, 3) := by decide +kernel
theorem dX4_trace_28 : decode cX4_trace 28 = .ok (.iload_n 1, 1) := by decide +kernel
theorem dX4_trace_29 : decode cX4_trace 29 = .ok (.iaload, 1) := by decide +kernel
theorem dX4_trace_30 : decode cX4_trace 30 = .ok (.goto 4, 3) := by decide +kernel
theorem dX4_trace_33 : decode cX4_trace 33 = .ok (.iconst (-1), 1) := by decide +kernel
theorem dX4_trace_34 : decode cX4_trace 34 = .ok (.ireturn, 1) := by decide +kernel
theorem dX4_image_0 : decode cX4_image 0 = .ok (.aload_n 0, 1) := by decide +kernel
theorem dX4_image_1 : decode cX4_image 1 = .ok (.getfield 16, 3) := by decide +kernel
theorem dX4_image_4 : decode cX4_image 4 = .ok (.aload_n 0, 1) := by decide +kernel
theorem dX4_image_5 : decode cX4_image 5 = .ok (.getfield 10, 3) := by decide +kernel
theorem dX4_image_8 : decode cX4_image 8 = .ok (.invokevirtual 202, 3) := by decide +kernel
theorem dX4_image_11 : decode cX4_image 11 = .ok (.aload_n 0, 1) := by decide +kernel
theorem dX4_image_12 : decode cX4_image 12 = .ok (.iconst 1, 1) := by decide +kernel
theorem dX4_image_13 : decode cX4_image 13 = .ok (.putfield 46, 3) := by decide +kernel
theorem dX4_image_16 : decode cX4_image 16 = .ok (.aload_n 0, 1) := by decide +kernel
theorem dX4_image_17 : decode cX4_image 17 = .ok (.getfield 10, 3) := by decide +kernel
theorem dX4_image_20 : decode cX4_image 20 = .ok (.getfield 146, 3) := by decide +kernel
theorem dX4_image_23 : decode cX4_image 23 = .ok (.ireturn, 1) := by decide +kernel
theorem dX4_restore_0 : decode cX4_restore 0 = .ok (.aload_n 0, 1) := by decide +kernel
theorem dX4_restore_1 : decode cX4_restore 1 = .ok (.getfield 46, 3) := by decide +kernel
theorem dX4_restore_4 : decode cX4_restore 4 = .ok (.ifCond .ne 10, 3) := by decide +kernel
theorem dX4_restore_7 : decode cX4_restore 7 = .ok (.aload_n 0, 1) := by decide +kernel
theorem dX4_restore_8 : decode cX4_restore 8 = .ok (.bipush (-6), 2) := by decide +kernel
theorem dX4_restore_10 : decode cX4_restore 10 = .ok (.invokevirtual 82, 3) := by decide +kernel
theorem dX4_restore_13 : decode cX4_restore 13 = .ok (.ireturn, 1) := by decide +kernel
theorem dX4_restore_14 : decode cX4_restore 14 = .ok (.aload_n 0, 1) := by decide +kernel
theorem dX4_restore_15 : decode cX4_restore 15 = .ok (.getfield 10, 3) := by decide +kernel
theorem dX4_restore_18 : decode cX4_restore 18 = .ok (.aload_n 0, 1) := by decide +kernel
theorem dX4_restore_19 : decode cX4_restore 19 = .ok (.getfield 16, 3) := by decide +kernel
theorem dX4_restore_22 : decode cX4_restore 22 = .ok (.invokevirtual 202, 3) := by decide +kernel
theorem dX4_restore_25 : decode cX4_restore 25 = .ok (.iconst 0, 1) := by decide +kernel
theorem dX4_restore_26 : decode cX4_restore 26 = .ok (.istore_n 1, 1) := by decide +kernel
theorem dX4_restore_27 : decode cX4_restore 27 = .ok (.iload_n 1, 1) := by decide +kernel
theorem dX4_restore_28 : decode cX4_restore 28 = .ok (.bipush 8, 2) := by decide +kernel
theorem dX4_restore_30 : decode cX4_restore 30 = .ok (.if_icmp .ge 50, 3) := by decide +kernel
theorem dX4_restore_33 : decode cX4_restore 33 = .ok (.aload_n 0, 1) := by decide +kernel
theorem dX4_restore_34 : decode cX4_restore 34 = .ok (.getfield 24, 3) := by decide +kernel
theorem dX4_restore_37 : decode cX4_restore 37 = .ok (.iload_n 1, 1) := by decide +kernel
theorem dX4_restore_38 : decode cX4_restore 38 = .ok (.aaload, 1) := by decide +kernel
theorem dX4_restore_39 : decode cX4_restore 39 = .ok (.invokevirtual 75, 3) := by decide +kernel
theorem dX4_restore_42 : decode cX4_restore 42 = .ok (.ifCond .eq 32, 3) := by decide +kernel
theorem dX4_restore_45 : decode cX4_restore 45 = .ok (.aload_n 0, 1) := by decide +kernel
theorem dX4_restore_46 : decode cX4_restore 46 = .ok (.getfield 10, 3) := by decide +kernel
theorem dX4_restore_49 : decode cX4_restore 49 = .ok (.aload_n 0, 1) := by decide +kernel
theorem dX4_restore_50 : decode cX4_restore 50 = .ok (.getfield 24, 3) := by decide +kernel
theorem dX4_restore_53 : decode cX4_restore 53 = .ok (.iload_n 1, 1) := by decide +kernel
theorem dX4_restore_54 : decode cX4_restore 54 = .ok (.aaload, 1) := by decide +kernel
theorem dX4_restore_55 : decode cX4_restore 55 = .ok (.getfield 103, 3) := by decide +kernel
theorem dX4_restore_58 : decode cX4_restore 58 = .ok (.invokevirtual 119, 3) := by decide +kernel
theorem dX4_restore_61 : decode cX4_restore 61 = .ok (.ifCond .ne 13, 3) := by decide +kernel
theorem dX4_restore_64 : decode cX4_restore 64 = .ok (.aload_n 0, 1) := by decide +kernel
theorem dX4_restore_65 : decode cX4_restore 65 = .ok (.getfield 24, 3) := by decide +kernel
theorem dX4_restore_68 : decode cX4_restore 68 = .ok (.iload_n 1, 1) := by decide +kernel
theorem dX4_restore_69 : decode cX4_restore 69 = .ok (.aaload, 1) := by decide +kernel
theorem dX4_restore_70 : decode cX4_restore 70 = .ok (.iconst (-1), 1) := by decide +kernel
theorem dX4_restore_71 : decode cX4_restore 71 = .ok (.putfield 103, 3) := by decide +kernel
theorem dX4_restore_74 : decode cX4_restore 74 = .ok (.iinc 1 1, 3) := by decide +kernel
theorem dX4_restore_77 : decode cX4_restore 77 = .ok (.goto (-50), 3) := by decide +kernel
theorem dX4_restore_80 : decode cX4_restore 80 = .ok (.aload_n 0, 1) := by decide +kernel
theorem dX4_restore_81 : decode cX4_restore 81 = .ok (.getfield 10, 3) := by decide +kernel
theorem dX4_restore_84 : decode cX4_restore 84 = .ok (.getfield 146, 3) := by decide +kernel
theorem dX4_restore_87 : decode cX4_restore 87 = .ok (.ireturn, 1) := by decide +kernel
theorem dX4_status_0 : decode cX4_status 0 = .ok (.iload_n 1, 1) := by decide +kernel
theorem dX4_status_1 : decode cX4_status 1 = .ok (.bipush 11, 2) := by decide +kernel
theorem dX4_status_3 : decode cX4_status 3 = .ok (.bipush 17, 2) := by decide +kernel
theorem dX4_status_5 : decode cX4_status 5 = .ok (.invokestatic 85, 3) := by decide +kernel
theorem dX4_status_8 : decode cX4_status 8 = .ok (.ifCond .eq 13, 3) := by decide +kernel
theorem dX4_status_11 : decode cX4_status 11 = .ok (.aload_n 0, 1) := by decide +kernel
theorem dX4_status_12 : decode cX4_status 12 = .ok (.getfield 42, 3) := by decide +kernel
theorem dX4_status_15 : decode cX4_status 15 = .ok (.iload_n 1, 1) := by decide +kernel
theorem dX4_status_16 : decode cX4_status 16 = .ok (.bipush 10, 2) := by decide +kernel
theorem dX4_status_18 : decode cX4_status 18 = .ok (.isub, 1) := by decide +kernel
theorem dX4_status_19 : decode cX4_status 19 = .ok (.iaload, 1) := by decide +kernel
theorem dX4_status_20 : decode cX4_status 20 = .ok (.ireturn, 1) := by decide +kernel
theorem dX4_status_21 : decode cX4_status 21 = .ok (.iload_n 1, 1) := by decide +kernel
theorem dX4_status_22 : decode cX4_status 22 = .ok (.tableswitch 125 0 8 #[50, 58, 66, 74, 85, 93, 101, 109, 117], 50) := by decide +kernel
theorem dX4_status_72 : decode cX4_status 72 = .ok (.aload_n 0, 1) := by decide +kernel
theorem dX4_status_73 : decode cX4_status 73 = .ok (.getfield 10, 3) := by decide +kernel
theorem dX4_status_76 : decode cX4_status 76 = .ok (.getfield 133, 3) := by decide +kernel
theorem dX4_status_79 : decode cX4_status 79 = .ok (.ireturn, 1) := by decide +kernel
theorem dX4_status_80 : decode cX4_status 80 = .ok (.aload_n 0, 1) := by decide +kernel
theorem dX4_status_81 : decode cX4_status 81 = .ok (.getfield 10, 3) := by decide +kernel
theorem dX4_status_84 : decode cX4_status 84 = .ok (.getfield 140, 3) := by decide +kernel
theorem dX4_status_87 : decode cX4_status 87 = .ok (.ireturn, 1) := by decide +kernel
theorem dX4_status_88 : decode cX4_status 88 = .ok (.aload_n 0, 1) := by decide +kernel
theorem dX4_status_89 : decode cX4_status 89 = .ok (.getfield 10, 3) := by decide +kernel
theorem dX4_status_92 : decode cX4_status 92 = .ok (.getfield 146, 3) := by decide +kernel
theorem dX4_status_95 : decode cX4_status 95 = .ok (.ireturn, 1) := by decide +kernel
theorem dX4_status_96 : decode cX4_status 96 = .ok (.aload_n 0, 1) := by decide +kernel
theorem dX4_status_97 : decode cX4_status 97 = .ok (.getfield 10, 3) := by decide +kernel
theorem dX4_status_100 : decode cX4_status 100 = .ok (.getfield 198, 3) := by decide +kernel
theorem dX4_status_103 : decode cX4_status 103 = .ok (.invokestatic 178, 3) := by decide +kernel
theorem dX4_status_106 : decode cX4_status 106 = .ok (.ireturn, 1) := by decide +kernel
theorem dX4_status_107 : decode cX4_status 107 = .ok (.aload_n 0, 1) := by decide +kernel
theorem dX4_status_108 : decode cX4_status 108 = .ok (.getfield 10, 3) := by decide +kernel
theorem dX4_status_111 : decode cX4_status 111 = .ok (.getfield 149, 3) := by decide +kernel
theorem dX4_status_114 : decode cX4_status 114 = .ok (.ireturn, 1) := by decide +kernel
theorem dX4_status_115 : decode cX4_status 115 = .ok (.aload_n 0, 1) := by decide +kernel
theorem dX4_status_116 : decode cX4_status 116 = .ok (.getfield 10, 3) := by decide +kernel
theorem dX4_status_119 : decode cX4_status 119 = .ok (.getfield 152, 3) := by decide +kernel
theorem dX4_status_122 : decode cX4_status 122 = .ok (.ireturn, 1) := by decide +kernel
theorem dX4_status_123 : decode cX4_status 123 = .ok (.aload_n 0, 1) := by decide +kernel
theorem dX4_status_124 : decode cX4_status 124 = .ok (.getfield 10, 3) := by decide +kernel
theorem dX4_status_127 : decode cX4_status 127 = .ok (.getfield 288, 3) := by decide +kernel
theorem dX4_status_130 : decode cX4_status 130 = .ok (.ireturn, 1) := by decide +kernel
theorem dX4_status_131 : decode cX4_status 131 = .ok (.aload_n 0, 1) := by decide +kernel
theorem dX4_status_132 : decode cX4_status 132 = .ok (.getfield 10, 3) := by decide +kernel
theorem dX4_status_135 : decode cX4_status 135 = .ok (.getfield 297, 3) := by decide +kernel
theorem dX4_status_138 : decode cX4_status 138 = .ok (.ireturn, 1) := by decide +kernel
theorem dX4_status_139 : decode cX4_status 139 = .ok (.aload_n 0, 1) := by decide +kernel
theorem dX4_status_140 : decode cX4_status 140 = .ok (.getfield 38, 3) := by decide +kernel
theorem dX4_status_143 : decode cX4_status 143 = .ok (.getfield 310, 3) := by decide +kernel
theorem dX4_status_146 : decode cX4_status 146 = .ok (.ireturn, 1) := by decide +kernel
theorem dX4_status_147 : decode cX4_status 147 = .ok (.iconst (-1), 1) := by decide +kernel
theorem dX4_status_148 : decode cX4_status 148 = .ok (.ireturn, 1) := by decide +kernel
theorem dX5_init_0 : decode cX5_init 0 = .ok (.aload_n 0, 1) := by decide +kernel
theorem dX5_init_1 : decode cX5_init 1 = .ok (.invokespecial 1, 3) := by decide +kernel
theorem dX5_init_4 : decode cX5_init 4 = .ok (.aload_n 0, 1) := by decide +kernel
theorem dX5_init_5 : decode cX5_init 5 = .ok (.iconst 4, 1) := by decide +kernel
theorem dX5_init_6 : decode cX5_init 6 = .ok (.putfield 7, 3) := by decide +kernel
theorem dX5_init_9 : decode cX5_init 9 = .ok (.aload_n 0, 1) := by decide +kernel
theorem dX5_init_10 : decode cX5_init 10 = .ok (.iconst 2, 1) := by decide +kernel
theorem dX5_init_11 : decode cX5_init 11 = .ok (.putfield 13, 3) := by decide +kernel
theorem dX5_init_14 : decode cX5_init 14 = .ok (.aload_n 0, 1) := by decide +kernel
theorem dX5_init_15 : decode cX5_init 15 = .ok (.iconst 1, 1) := by decide +kernel
theorem dX5_init_16 : decode cX5_init 16 = .ok (.putfield 16, 3) := by decide +kernel
theorem dX5_init_19 : decode cX5_init 19 = .ok (.aload_n 0, 1) := by decide +kernel
theorem dX5_init_20 : decode cX5_init 20 = .ok (.iconst (-1), 1) := by decide +kernel
theorem dX5_init_21 : decode cX5_init 21 = .ok (.putfield 19, 3) := by decide +kernel
theorem dX5_init_24 : decode cX5_init 24 = .ok (.aload_n 0, 1) := by decide +kernel
theorem dX5_init_25 : decode cX5_init 25 = .ok (.iconst (-1), 1) := by decide +kernel
theorem dX5_init_26 : decode cX5_init 26 = .ok (.putfield 22, 3) := by decide +kernel
theorem dX5_init_29 : decode cX5_init 29 = .ok (.aload_n 0, 1) := by decide +kernel
theorem dX5_init_30 : decode cX5_init 30 = .ok (.lconst 1, 1) := by decide +kernel
theorem dX5_init_31 : decode cX5_init 31 = .ok (.putfield 25, 3) := by decide +kernel
theorem dX5_init_34 : decode cX5_init 34 = .ok (.aload_n 0, 1) := by decide +kernel
theorem dX5_init_35 : decode cX5_init 35 = .ok (.bipush 8, 2) := by decide +kernel
theorem dX5_init_37 : decode cX5_init 37 = .ok (.newarray .int, 2) := by decide +kernel
theorem dX5_init_39 : decode cX5_init 39 = .ok (.putfield 29, 3) := by decide +kernel
theorem dX5_init_42 : decode cX5_init 42 = .ok (.aload_n 0, 1) := by decide +kernel
theorem dX5_init_43 : decode cX5_init 43 = .ok (.bipush 6, 2) := by decide +kernel
theorem dX5_init_45 : decode cX5_init 45 = .ok (.newarray .int, 2) := by decide +kernel
theorem dX5_init_47 : decode cX5_init 47 = .ok (.putfield 33, 3) := by decide +kernel
theorem dX5_init_50 : decode cX5_init 50 = .ok (.aload_n 0, 1) := by decide +kernel
theorem dX5_init_51 : decode cX5_init 51 = .ok (.bipush 6, 2) := by decide +kernel
theorem dX5_init_53 : decode cX5_init 53 = .ok (.newarray .int, 2) := by decide +kernel
theorem dX5_init_55 : decode cX5_init 55 = .ok (.putfield 36, 3) := by decide +kernel
theorem dX5_init_58 : decode cX5_init 58 = .ok (.aload_n 0, 1) := by decide +kernel
theorem dX5_init_59 : decode cX5_init 59 = .ok (.bipush 6, 2) := by decide +kernel
theorem dX5_init_61 : decode cX5_init 61 = .ok (.newarray .int, 2) := by decide +kernel
theorem dX5_init_63 : decode cX5_init 63 = .ok (.putfield 39, 3) := by decide +kernel
theorem dX5_init_66 : decode cX5_init 66 = .ok (.aload_n 0, 1) := by decide +kernel
theorem dX5_init_67 : decode cX5_init 67 = .ok (.bipush 52, 2) := by decide +kernel
theorem dX5_init_69 : decode cX5_init 69 = .ok (.newarray .int, 2) := by decide +kernel
theorem dX5_init_71 : decode cX5_init 71 = .ok (.putfield 42, 3) := by decide +kernel
theorem dX5_init_74 : decode cX5_init 74 = .ok (.aload_n 0, 1) := by decide +kernel
theorem dX5_init_75 : decode cX5_init 75 = .ok (.bipush 52, 2) := by decide +kernel
theorem dX5_init_77 : decode cX5_init 77 = .ok (.newarray .int, 2) := by decide +kernel
theorem dX5_init_79 : decode cX5_init 79 = .ok (.putfield 45, 3) := by decide +kernel
theorem dX5_init_82 : decode cX5_init 82 = .ok (.aload_n 0, 1) := by decide +kernel
theorem dX5_init_83 : decode cX5_init 83 = .ok (.bipush 52, 2) := by decide +kernel
theorem dX5_init_85 : decode cX5_init 85 = .ok (.newarray .int, 2) := by decide +kernel
theorem dX5_init_87 : decode cX5_init 87 = .ok (.putfield 48, 3) := by decide +kernel
theorem dX5_init_90 : decode cX5_init 90 = .ok (.aload_n 0, 1) := by decide +kernel
theorem dX5_init_91 : decode cX5_init 91 = .ok (.bipush 8, 2) := by decide +kernel
theorem dX5_init_93 : decode cX5_init 93 = .ok (.newarray .int, 2) := by decide +kernel
theorem dX5_init_95 : decode cX5_init 95 = .ok (.putfield 51, 3) := by decide +kernel
theorem dX5_init_98 : decode cX5_init 98 = .ok (.aload_n 0, 1) := by decide +kernel
theorem dX5_init_99 : decode cX5_init 99 = .ok (.bipush 8, 2) := by decide +kernel
theorem dX5_init_101 : decode cX5_init 101 = .ok (.newarray .int, 2) := by decide +kernel
theorem dX5_init_103 : decode cX5_init 103 = .ok (.putfield 54, 3) := by decide +kernel
theorem dX5_init_106 : decode cX5_init 106 = .ok (.aload_n 0, 1) := by decide +kernel
theorem dX5_init_107 : decode cX5_init 107 = .ok (.bipush 8, 2) := by decide +kernel
theorem dX5_init_109 : decode cX5_init 109 = .ok (.newarray .int, 2) := by decide +kernel
theorem dX5_init_111 : decode cX5_init 111 = .ok (.putfield 57, 3) := by decide +kernel
theorem dX5_init_114 : decode cX5_init 114 = .ok (.aload_n 0, 1) := by decide +kernel
theorem dX5_init_115 : decode cX5_init 115 = .ok (.bipush 8, 2) := by decide +kernel
theorem dX5_init_117 : decode cX5_init 117 = .ok (.newarray .int, 2) := by decide +kernel
theorem dX5_init_119 : decode cX5_init 119 = .ok (.putfield 60, 3) := by decide +kernel
theorem dX5_init_122 : decode cX5_init 122 = .ok (.aload_n 0, 1) := by decide +kernel
theorem dX5_init_123 : decode cX5_init 123 = .ok (.sipush 1280, 3) := by decide +kernel
theorem dX5_init_126 : decode cX5_init 126 = .ok (.newarray .long, 2) := by decide +kernel
theorem dX5_init_128 : decode cX5_init 128 = .ok (.putfield 63, 3) := by decide +kernel
theorem dX5_init_131 : decode cX5_init 131 = .ok (.aload_n 0, 1) := by decide +kernel
theorem dX5_init_132 : decode cX5_init 132 = .ok (.sipush 160, 3) := by decide +kernel
theorem dX5_init_135 : decode cX5_init 135 = .ok (.newarray .long, 2) := by decide +kernel
theorem dX5_init_137 : decode cX5_init 137 = .ok (.putfield 67, 3) := by decide +kernel
theorem dX5_init_140 : decode cX5_init 140 = .ok (.aload_n 0, 1) := by decide +kernel
theorem dX5_init_141 : decode cX5_init 141 = .ok (.bipush 29, 2) := by decide +kernel
theorem dX5_init_143 : decode cX5_init 143 = .ok (.newarray .int, 2) := by decide +kernel
theorem dX5_init_145 : decode cX5_init 145 = .ok (.dup, 1) := by decide +kernel
theorem dX5_init_146 : decode cX5_init 146 = .ok (.iconst 0, 1) := by decide +kernel
theorem dX5_init_147 : decode cX5_init 147 = .ok (.bipush 102, 2) := by decide +kernel
theorem dX5_init_149 : decode cX5_init 149 = .ok (.iastore, 1) := by decide +kernel
theorem dX5_init_150 : decode cX5_init 150 = .ok (.dup, 1) := by decide +kernel
theorem dX5_init_151 : decode cX5_init 151 = .ok (.iconst 1, 1) := by decide +kernel
theorem dX5_init_152 : decode cX5_init 152 = .ok (.bipush 97, 2) := by decide +kernel
theorem dX5_init_154 : decode cX5_init 154 = .ok (.iastore, 1) := by decide +kernel
theorem dX5_init_155 : decode cX5_init 155 = .ok (.dup, 1) := by decide +kernel
theorem dX5_init_156 : decode cX5_init 156 = .ok (.iconst 2, 1) := by decide +kernel
theorem dX5_init_157 : decode cX5_init 157 = .ok (.bipush 99, 2) := by decide +kernel
theorem dX5_init_159 : decode cX5_init 159 = .ok (.iastore, 1) := by decide +kernel
theorem dX5_init_160 : decode cX5_init 160 = .ok (.dup, 1) := by decide +kernel
theorem dX5_init_161 : decode cX5_init 161 = .ok (.iconst 3, 1) := by decide +kernel
theorem dX5_init_162 : decode cX5_init 162 = .ok (.bipush 116, 2) := by decide +kernel
theorem dX5_init_164 : decode cX5_init 164 = .ok (.iastore, 1) := by decide +kernel
theorem dX5_init_165 : decode cX5_init 165 = .ok (.dup, 1) := by decide +kernel
theorem dX5_init_166 : decode cX5_init 166 = .ok (.iconst 4, 1) := by decide +kernel
theorem dX5_init_167 : decode cX5_init 167 = .ok (.bipush 32, 2) := by decide +kernel
theorem dX5_init_169 : decode cX5_init 169 = .ok (.iastore, 1) := by decide +kernel
theorem dX5_init_170 : decode cX5_init 170 = .ok (.dup, 1) := by decide +kernel
theorem dX5_init_171 : decode cX5_init 171 = .ok (.iconst 5, 1) := by decide +kernel
theorem dX5_init_172 : decode cX5_init 172 = .ok (.iconst 0, 1) := by decide +kernel
theorem dX5_init_173 : decode cX5_init 173 = .ok (.iastore, 1) := by decide +kernel
theorem dX5_init_174 : decode cX5_init 174 = .ok (.dup, 1) := by decide +kernel
theorem dX5_init_175 : decode cX5_init 175 = .ok (.bipush 6, 2) := by decide +kernel
theorem dX5_init_177 : decode cX5_init 177 = .ok (.bipush 109, 2) := by decide +kernel
theorem dX5_init_179 : decode cX5_init 179 = .ok (.iastore, 1) := by decide +kernel
theorem dX5_init_180 : decode cX5_init 180 = .ok (.dup, 1) := by decide +kernel
theorem dX5_init_181 : decode cX5_init 181 = .ok (.bipush 7, 2) := by decide +kernel
theorem dX5_init_183 : decode cX5_init 183 = .ok (.bipush 97, 2) := by decide +kernel
theorem dX5_init_185 : decode cX5_init 185 = .ok (.iastore, 1) := by decide +kernel
theorem dX5_init_186 : decode cX5_init 186 = .ok (.dup, 1) := by decide +kernel
theorem dX5_init_187 : decode cX5_init 187 = .ok (.bipush 8, 2) := by decide +kernel
theorem dX5_init_189 : decode cX5_init 189 = .ok (.bipush 110, 2) := by decide +kernel
theorem dX5_init_191 : decode cX5_init 191 = .ok (.iastore, 1) := by decide +kernel
theorem dX5_init_192 : decode cX5_init 192 = .ok (.dup, 1) := by decide +kernel
theorem dX5_init_193 : decode cX5_init 193 = .ok (.bipush 9, 2) := by decide +kernel
theorem dX5_init_195 : decode cX5_init 195 = .ok (.bipush 32, 2) := by decide +kernel
theorem dX5_init_197 : decode cX5_init 197 = .ok (.iastore, 1) := by decide +kernel
theorem dX5_init_198 : decode cX5_init 198 = .ok (.dup, 1) := by decide +kernel
theorem dX5_init_199 : decode cX5_init 199 = .ok (.bipush 10, 2) := by decide +kernel
theorem dX5_init_201 : decode cX5_init 201 = .ok (.iconst 0, 1) := by decide +kernel
theorem dX5_init_202 : decode cX5_init 202 = .ok (.iastore, 1) := by decide +kernel
theorem dX5_init_203 : decode cX5_init 203 = .ok (.dup, 1) := by decide +kernel
theorem dX5_init_204 : decode cX5_init 204 = .ok (.bipush 11, 2) := by decide +kernel
theorem dX5_init_206 : decode cX5_init 206 = .ok (.bipush 108, 2) := by decide +kernel
theorem dX5_init_208 : decode cX5_init 208 = .ok (.iastore, 1) := by decide +kernel
theorem dX5_init_209 : decode cX5_init 209 = .ok (.dup, 1) := by decide +kernel
theorem dX5_init_210 : decode cX5_init 210 = .ok (.bipush 12, 2) := by decide +kernel
theorem dX5_init_212 : decode cX5_init 212 = .ok (.bipush 97, 2) := by decide +kernel
theorem dX5_init_214 : decode cX5_init 214 = .ok (.iastore, 1) := by decide +kernel
theorem dX5_init_215 : decode cX5_init 215 = .ok (.dup, 1) := by decide +kernel
theorem dX5_init_216 : decode cX5_init 216 = .ok (.bipush 13, 2) := by decide +kernel
theorem dX5_init_218 : decode cX5_init 218 = .ok (.bipush 119, 2) := by decide +kernel
theorem dX5_init_220 : decode cX5_init 220 = .ok (.iastore, 1) := by decide +kernel
theorem dX5_init_221 : decode cX5_init 221 = .ok (.dup, 1) := by decide +kernel
theorem dX5_init_222 : decode cX5_init 222 = .ok (.bipush 14, 2) := by decide +kernel
theorem dX5_init_224 : decode cX5_init 224 = .ok (.bipush 32, 2) := by decide +kernel
theorem dX5_init_226 : decode cX5_init 226 = .ok (.iastore, 1) := by decide +kernel
theorem dX5_init_227 : decode cX5_init 227 = .ok (.dup, 1) := by decide +kernel
theorem dX5_init_228 : decode cX5_init 228 = .ok (.bipush 15, 2) := by decide +kernel
theorem dX5_init_230 : decode cX5_init 230 = .ok (.iconst 0, 1) := by decide +kernel
theorem dX5_init_231 : decode cX5_init 231 = .ok (.iastore, 1) := by decide +kernel
theorem dX5_init_232 : decode cX5_init 232 = .ok (.dup, 1) := by decide +kernel
theorem dX5_init_233 : decode cX5_init 233 = .ok (.bipush 16, 2) := by decide +kernel
theorem dX5_init_235 : decode cX5_init 235 = .ok (.bipush 115, 2) := by decide +kernel
theorem dX5_init_237 : decode cX5_init 237 = .ok (.iastore, 1) := by decide +kernel
theorem dX5_init_238 : decode cX5_init 238 = .ok (.dup, 1) := by decide +kernel
theorem dX5_init_239 : decode cX5_init 239 = .ok (.bipush 17, 2) := by decide +kernel
theorem dX5_init_241 : decode cX5_init 241 = .ok (.bipush 97, 2) := by decide +kernel
theorem dX5_init_243 : decode cX5_init 243 = .ok (.iastore, 1) := by decide +kernel
theorem dX5_init_244 : decode cX5_init 244 = .ok (.dup, 1) := by decide +kernel
theorem dX5_init_245 : decode cX5_init 245 = .ok (.bipush 18, 2) := by decide +kernel
theorem dX5_init_247 : decode cX5_init 247 = .ok (.bipush 121, 2) := by decide +kernel
theorem dX5_init_249 : decode cX5_init 249 = .ok (.iastore, 1) := by decide +kernel
theorem dX5_init_250 : decode cX5_init 250 = .ok (.dup, 1) := by decide +kernel
theorem dX5_init_251 : decode cX5_init 251 = .ok (.bipush 19, 2) := by decide +kernel
theorem dX5_init_253 : decode cX5_init 253 = .ok (.bipush 115, 2) := by decide +kernel
theorem dX5_init_255 : decode cX5_init 255 = .ok (.iastore, 1) := by decide +kernel
theorem dX5_init_256 : decode cX5_init 256 = .ok (.dup, 1) := by decide +kernel
theorem dX5_init_257 : decode cX5_init 257 = .ok (.bipush 20, 2) := by decide +kernel
theorem dX5_init_259 : decode cX5_init 259 = .ok (.bipush 32, 2) := by decide +kernel
theorem dX5_init_261 : decode cX5_init 261 = .ok (.iastore, 1) := by decide +kernel
theorem dX5_init_262 : decode cX5_init 262 = .ok (.dup, 1) := by decide +kernel
theorem dX5_init_263 : decode cX5_init 263 = .ok (.bipush 21, 2) := by decide +kernel
theorem dX5_init_265 : decode cX5_init 265 = .ok (.iconst 0, 1) := by decide +kernel
theorem dX5_init_266 : decode cX5_init 266 = .ok (.iastore, 1) := by decide +kernel
theorem dX5_init_267 : decode cX5_init 267 = .ok (.dup, 1) := by decide +kernel
theorem dX5_init_268 : decode cX5_init 268 = .ok (.bipush 22, 2) := by decide +kernel
theorem dX5_init_270 : decode cX5_init 270 = .ok (.bipush 107, 2) := by decide +kernel
theorem dX5_init_272 : decode cX5_init 272 = .ok (.iastore, 1) := by decide +kernel
theorem dX5_init_273 : decode cX5_init 273 = .ok (.dup, 1) := by decide +kernel
theorem dX5_init_274 : decode cX5_init 274 = .ok (.bipush 23, 2) := by decide +kernel
theorem dX5_init_276 : decode cX5_init 276 = .ok (.bipush 110, 2) := by decide +kernel
theorem dX5_init_278 : decode cX5_init 278 = .ok (.iastore, 1) := by decide +kernel
theorem dX5_init_279 : decode cX5_init 279 = .ok (.dup, 1) := by decide +kernel
theorem dX5_init_280 : decode cX5_init 280 = .ok (.bipush 24, 2) := by decide +kernel
theorem dX5_init_282 : decode cX5_init 282 = .ok (.bipush 111, 2) := by decide +kernel
theorem dX5_init_284 : decode cX5_init 284 = .ok (.iastore, 1) := by decide +kernel
theorem dX5_init_285 : decode cX5_init 285 = .ok (.dup, 1) := by decide +kernel
theorem dX5_init_286 : decode cX5_init 286 = .ok (.bipush 25, 2) := by decide +kernel
theorem dX5_init_288 : decode cX5_init 288 = .ok (.bipush 119, 2) := by decide +kernel
theorem dX5_init_290 : decode cX5_init 290 = .ok (.iastore, 1) := by decide +kernel
theorem dX5_init_291 : decode cX5_init 291 = .ok (.dup, 1) := by decide +kernel
theorem dX5_init_292 : decode cX5_init 292 = .ok (.bipush 26, 2) := by decide +kernel
theorem dX5_init_294 : decode cX5_init 294 = .ok (.bipush 110, 2) := by decide +kernel
theorem dX5_init_296 : decode cX5_init 296 = .ok (.iastore, 1) := by decide +kernel
theorem dX5_init_297 : decode cX5_init 297 = .ok (.dup, 1) := by decide +kernel
theorem dX5_init_298 : decode cX5_init 298 = .ok (.bipush 27, 2) := by decide +kernel
theorem dX5_init_300 : decode cX5_init 300 = .ok (.bipush 32, 2) := by decide +kernel
theorem dX5_init_302 : decode cX5_init 302 = .ok (.iastore, 1) := by decide +kernel
theorem dX5_init_303 : decode cX5_init 303 = .ok (.dup, 1) := by decide +kernel
theorem dX5_init_304 : decode cX5_init 304 = .ok (.bipush 28, 2) := by decide +kernel
theorem dX5_init_306 : decode cX5_init 306 = .ok (.iconst 0, 1) := by decide +kernel
theorem dX5_init_307 : decode cX5_init 307 = .ok (.iastore, 1) := by decide +kernel
theorem dX5_init_308 : decode cX5_init 308 = .ok (.putfield 70, 3) := by decide +kernel
theorem dX5_init_311 : decode cX5_init 311 = .ok (.aload_n 0, 1) := by decide +kernel
theorem dX5_init_312 : decode cX5_init 312 = .ok (.iconst 3, 1) := by decide +kernel
theorem dX5_init_313 : decode cX5_init 313 = .ok (.newarray .int, 2) := by decide +kernel
theorem dX5_init_315 : decode cX5_init 315 = .ok (.putfield 73, 3) := by decide +kernel
theorem dX5_init_318 : decode cX5_init 318 = .ok (.aload_n 0, 1) := by decide +kernel
theorem dX5_init_319 : decode cX5_init 319 = .ok (.bipush 120, 2) := by decide +kernel
theorem dX5_init_321 : decode cX5_init 321 = .ok (.newarray .int, 2) := by decide +kernel
theorem dX5_init_323 : decode cX5_init 323 = .ok (.putfield 76, 3) := by decide +kernel
theorem dX5_init_326 : decode cX5_init 326 = .ok (.aload_n 0, 1) := by decide +kernel
theorem dX5_init_327 : decode cX5_init 327 = .ok (.bipush 120, 2) := by decide +kernel
theorem dX5_init_329 : decode cX5_init 329 = .ok (.newarray .int, 2) := by decide +kernel
theorem dX5_init_331 : decode cX5_init 331 = .ok (.putfield 79, 3) := by decide +kernel
theorem dX5_init_334 : decode cX5_init 334 = .ok (.aload_n 0, 1) := by decide +kernel
theorem dX5_init_335 : decode cX5_init 335 = .ok (.iconst 2, 1) := by decide +kernel
theorem dX5_init_336 : decode cX5_init 336 = .ok (.newarray .long, 2) := by decide +kernel
theorem dX5_init_338 : decode cX5_init 338 = .ok (.putfield 82, 3) := by decide +kernel
theorem dX5_init_341 : decode cX5_init 341 = .ok (.aload_n 0, 1) := by decide +kernel
theorem dX5_init_342 : decode cX5_init 342 = .ok (.bipush 20, 2) := by decide +kernel
theorem dX5_init_344 : decode cX5_init 344 = .ok (.newarray .int, 2) := by decide +kernel
theorem dX5_init_346 : decode cX5_init 346 = .ok (.putfield 85, 3) := by decide +kernel
theorem dX5_init_349 : decode cX5_init 349 = .ok (.return_, 1) := by decide +kernel
theorem dX5_no_0 : decode cX5_no 0 = .ok (.aload_n 0, 1) := by decide +kernel
theorem dX5_no_1 : decode cX5_no 1 = .ok (.getfield 29, 3) := by decide +kernel
theorem dX5_no_4 : decode cX5_no 4 = .ok (.iload_n 1, 1) := by decide +kernel
theorem dX5_no_5 : decode cX5_no 5 = .ok (.ineg, 1) := by decide +kernel
theorem dX5_no_6 : decode cX5_no 6 = .ok (.dup2, 1) := by decide +kernel
theorem dX5_no_7 : decode cX5_no 7 = .ok (.iaload, 1) := by decide +kernel
theorem dX5_no_8 : decode cX5_no 8 = .ok (.iconst 1, 1) := by decide +kernel
theorem dX5_no_9 : decode cX5_no 9 = .ok (.iadd, 1) := by decide +kernel
theorem dX5_no_10 : decode cX5_no 10 = .ok (.iastore, 1) := by decide +kernel
theorem dX5_no_11 : decode cX5_no 11 = .ok (.iload_n 1, 1) := by decide +kernel
theorem dX5_no_12 : decode cX5_no 12 = .ok (.ireturn, 1) := by decide +kernel
theorem dX5_noTen_0 : decode cX5_noTen 0 = .ok (.aload_n 0, 1) := by decide +kernel
theorem dX5_noTen_1 : decode cX5_noTen 1 = .ok (.getfield 29, 3) := by decide +kernel
theorem dX5_noTen_4 : decode cX5_noTen 4 = .ok (.iload_n 1, 1) := by decide +kernel
theorem dX5_noTen_5 : decode cX5_noTen 5 = .ok (.ineg, 1) := by decide +kernel
theorem dX5_noTen_6 : decode cX5_noTen 6 = .ok (.dup2, 1) := by decide +kernel
theorem dX5_noTen_7 : decode cX5_noTen 7 = .ok (.iaload, 1) := by decide +kernel
theorem dX5_noTen_8 : decode cX5_noTen 8 = .ok (.iconst 1, 1) := by decide +kernel
theorem dX5_noTen_9 : decode cX5_noTen 9 = .ok (.iadd, 1) := by decide +kernel
theorem dX5_noTen_10 : decode cX5_noTen 10 = .ok (.iastore, 1) := by decide +kernel
theorem dX5_noTen_11 : decode cX5_noTen 11 = .ok (.iload_n 1, 1) := by decide +kernel
theorem dX5_noTen_12 : decode cX5_noTen 12 = .ok (.bipush 10, 2) := by decide +kernel
theorem dX5_noTen_14 : decode cX5_noTen 14 = .ok (.isub, 1) := by decide +kernel
theorem dX5_noTen_15 : decode cX5_noTen 15 = .ok (.ireturn, 1) := by decide +kernel
theorem dX5_noLow_0 : decode cX5_noLow 0 = .ok (.aload_n 0, 1) := by decide +kernel
theorem dX5_noLow_1 : decode cX5_noLow 1 = .ok (.getfield 29, 3) := by decide +kernel
theorem dX5_noLow_4 : decode cX5_noLow 4 = .ok (.iload_n 1, 1) := by decide +kernel
theorem dX5_noLow_5 : decode cX5_noLow 5 = .ok (.ineg, 1) := by decide +kernel
theorem dX5_noLow_6 : decode cX5_noLow 6 = .ok (.dup2, 1) := by decide +kernel
theorem dX5_noLow_7 : decode cX5_noLow 7 = .ok (.iaload, 1) := by decide +kernel
theorem dX5_noLow_8 : decode cX5_noLow 8 = .ok (.iconst 1, 1) := by decide +kernel
theorem dX5_noLow_9 : decode cX5_noLow 9 = .ok (.iadd, 1) := by decide +kernel
theorem dX5_noLow_10 : decode cX5_noLow 10 = .ok (.iastore, 1) := by decide +kernel
theorem dX5_noLow_11 : decode cX5_noLow 11 = .ok (.iload_n 1, 1) := by decide +kernel
theorem dX5_noLow_12 : decode cX5_noLow 12 = .ok (.ldc 88, 2) := by decide +kernel
theorem dX5_noLow_14 : decode cX5_noLow 14 = .ok (.isub, 1) := by decide +kernel
theorem dX5_noLow_15 : decode cX5_noLow 15 = .ok (.ireturn, 1) := by decide +kernel
theorem dX5_isShelf_0 : decode cX5_isShelf 0 = .ok (.iload_n 1, 1) := by decide +kernel
theorem dX5_isShelf_1 : decode cX5_isShelf 1 = .ok (.ifCond .lt 13, 3) := by decide +kernel
theorem dX5_isShelf_4 : decode cX5_isShelf 4 = .ok (.iload_n 1, 1) := by decide +kernel
theorem dX5_isShelf_5 : decode cX5_isShelf 5 = .ok (.bipush 8, 2) := by decide +kernel
theorem dX5_isShelf_7 : decode cX5_isShelf 7 = .ok (.if_icmp .ge 7, 3) := by decide +kernel
theorem dX5_isShelf_10 : decode cX5_isShelf 10 = .ok (.iconst 1, 1) := by decide +kernel
theorem dX5_isShelf_11 : decode cX5_isShelf 11 = .ok (.goto 4, 3) := by decide +kernel
theorem dX5_isShelf_14 : decode cX5_isShelf 14 = .ok (.iconst 0, 1) := by decide +kernel
theorem dX5_isShelf_15 : decode cX5_isShelf 15 = .ok (.ireturn, 1) := by decide +kernel
theorem dX5_isFact_0 : decode cX5_isFact 0 = .ok (.iload_n 1, 1) := by decide +kernel
theorem dX5_isFact_1 : decode cX5_isFact 1 = .ok (.ifCond .lt 15, 3) := by decide +kernel
theorem dX5_isFact_4 : decode cX5_isFact 4 = .ok (.iload_n 1, 1) := by decide +kernel
theorem dX5_isFact_5 : decode cX5_isFact 5 = .ok (.aload_n 0, 1) := by decide +kernel
theorem dX5_isFact_6 : decode cX5_isFact 6 = .ok (.getfield 89, 3) := by decide +kernel
theorem dX5_isFact_9 : decode cX5_isFact 9 = .ok (.if_icmp .ge 7, 3) := by decide +kernel
theorem dX5_isFact_12 : decode cX5_isFact 12 = .ok (.iconst 1, 1) := by decide +kernel
theorem dX5_isFact_13 : decode cX5_isFact 13 = .ok (.goto 4, 3) := by decide +kernel
theorem dX5_isFact_16 : decode cX5_isFact 16 = .ok (.iconst 0, 1) := by decide +kernel
theorem dX5_isFact_17 : decode cX5_isFact 17 = .ok (.ireturn, 1) := by decide +kernel
theorem dX5_isSpeaker_0 : decode cX5_isSpeaker 0 = .ok (.iload_n 1, 1) := by decide +kernel
theorem dX5_isSpeaker_1 : decode cX5_isSpeaker 1 = .ok (.ifCond .lt 15, 3) := by decide +kernel
theorem dX5_isSpeaker_4 : decode cX5_isSpeaker 4 = .ok (.iload_n 1, 1) := by decide +kernel
theorem dX5_isSpeaker_5 : decode cX5_isSpeaker 5 = .ok (.aload_n 0, 1) := by decide +kernel
theorem dX5_isSpeaker_6 : decode cX5_isSpeaker 6 = .ok (.getfield 92, 3) := by decide +kernel
theorem dX5_isSpeaker_9 : decode cX5_isSpeaker 9 = .ok (.if_icmp .ge 7, 3) := by decide +kernel
theorem dX5_isSpeaker_12 : decode cX5_isSpeaker 12 = .ok (.iconst 1, 1) := by decide +kernel
theorem dX5_isSpeaker_13 : decode cX5_isSpeaker 13 = .ok (.goto 4, 3) := by decide +kernel
theorem dX5_isSpeaker_16 : decode cX5_isSpeaker 16 = .ok (.iconst 0, 1) := by decide +kernel
theorem dX5_isSpeaker_17 : decode cX5_isSpeaker 17 = .ok (.ireturn, 1) := by decide +kernel
theorem dX5_row_0 : decode cX5_row 0 = .ok (.aload_n 0, 1) := by decide +kernel
theorem dX5_row_1 : decode cX5_row 1 = .ok (.iload_n 1, 1) := by decide +kernel
theorem dX5_row_2 : decode cX5_row 2 = .ok (.invokevirtual 95, 3) := by decide +kernel
theorem dX5_row_5 : decode cX5_row 5 = .ok (.ifCond .ne 9, 3) := by decide +kernel
theorem dX5_row_8 : decode cX5_row 8 = .ok (.aload_n 0, 1) := by decide +kernel
theorem dX5_row_9 : decode cX5_row 9 = .ok (.iconst (-1), 1) := by decide +kernel
theorem dX5_row_10 : decode cX5_row 10 = .ok (.invokevirtual 99, 3) := by decide +kernel
theorem dX5_row_13 : decode cX5_row 13 = .ok (.ireturn, 1) := by decide +kernel
theorem dX5_row_14 : decode cX5_row 14 = .ok (.iload_n 3, 1) := by decide +kernel
theorem dX5_row_15 : decode cX5_row 15 = .ok (.ifCond .ge 10, 3) := by decide +kernel
theorem dX5_row_18 : decode cX5_row 18 = .ok (.aload_n 0, 1) := by decide +kernel
theorem dX5_row_19 : decode cX5_row 19 = .ok (.bipush (-4), 2) := by decide +kernel
theorem dX5_row_21 : decode cX5_row 21 = .ok (.invokevirtual 99, 3) := by decide +kernel
theorem dX5_row_24 : decode cX5_row 24 = .ok (.ireturn, 1) := by decide +kernel
theorem dX5_row_25 : decode cX5_row 25 = .ok (.iload_n 2, 1) := by decide +kernel
theorem dX5_row_26 : decode cX5_row 26 = .ok (.ifCond .lt 8, 3) := by decide +kernel
theorem dX5_row_29 : decode cX5_row 29 = .ok (.iload_n 2, 1) := by decide +kernel
theorem dX5_row_30 : decode cX5_row 30 = .ok (.iconst 3, 1) := by decide +kernel
theorem dX5_row_31 : decode cX5_row 31 = .ok (.if_icmp .le 10, 3) := by decide +kernel
theorem dX5_row_34 : decode cX5_row 34 = .ok (.aload_n 0, 1) := by decide +kernel
theorem dX5_row_35 : decode cX5_row 35 = .ok (.bipush (-6), 2) := by decide +kernel
theorem dX5_row_37 : decode cX5_row 37 = .ok (.invokevirtual 99, 3) := by decide +kernel
theorem dX5_row_40 : decode cX5_row 40 = .ok (.ireturn, 1) := by decide +kernel
theorem dX5_row_41 : decode cX5_row 41 = .ok (.iload_n 3, 1) := by decide +kernel
theorem dX5_row_42 : decode cX5_row 42 = .ok (.sipush 160, 3) := by decide +kernel
theorem dX5_row_45 : decode cX5_row 45 = .ok (.if_icmp .le 10, 3) := by decide +kernel
theorem dX5_row_48 : decode cX5_row 48 = .ok (.aload_n 0, 1) := by decide +kernel
theorem dX5_row_49 : decode cX5_row 49 = .ok (.bipush (-7), 2) := by decide +kernel
theorem dX5_row_51 : decode cX5_row 51 = .ok (.invokevirtual 99, 3) := by decide +kernel
theorem dX5_row_54 : decode cX5_row 54 = .ok (.ireturn, 1) := by decide +kernel
theorem dX5_row_55 : decode cX5_row 55 = .ok (.aload_n 0, 1) := by decide +kernel
theorem dX5_row_56 : decode cX5_row 56 = .ok (.getfield 51, 3) := by decide +kernel
theorem dX5_row_59 : decode cX5_row 59 = .ok (.iload_n 1, 1) := by decide +kernel
theorem dX5_row_60 : decode cX5_row 60 = .ok (.iconst 1, 1) := by decide +kernel
theorem dX5_row_61 : decode cX5_row 61 = .ok (.iastore, 1) := by decide +kernel
theorem dX5_row_62 : decode cX5_row 62 = .ok (.aload_n 0, 1) := by decide +kernel
theorem dX5_row_63 : decode cX5_row 63 = .ok (.getfield 54, 3) := by decide +kernel
theorem dX5_row_66 : decode cX5_row 66 = .ok (.iload_n 1, 1) := by decide +kernel
theorem dX5_row_67 : decode cX5_row 67 = .ok (.iload_n 2, 1) := by decide +kernel
theorem dX5_row_68 : decode cX5_row 68 = .ok (.iastore, 1) := by decide +kernel
theorem dX5_row_69 : decode cX5_row 69 = .ok (.aload_n 0, 1) := by decide +kernel
theorem dX5_row_70 : decode cX5_row 70 = .ok (.getfield 57, 3) := by decide +kernel
theorem dX5_row_73 : decode cX5_row 73 = .ok (.iload_n 1, 1) := by decide +kernel
theorem dX5_row_74 : decode cX5_row 74 = .ok (.iload_n 3, 1) := by decide +kernel
theorem dX5_row_75 : decode cX5_row 75 = .ok (.iastore, 1) := by decide +kernel
theorem dX5_row_76 : decode cX5_row 76 = .ok (.iconst 0, 1) := by decide +kernel
theorem dX5_row_77 : decode cX5_row 77 = .ok (.istore 4, 2) := by decide +kernel
theorem dX5_row_79 : decode cX5_row 79 = .ok (.iload 4, 2) := by decide +kernel
theorem dX5_row_81 : decode cX5_row 81 = .ok (.sipush 160, 3) := by decide +kernel
theorem dX5_row_84 : decode cX5_row 84 = .ok (.if_icmp .ge 23, 3) := by decide +kernel
theorem dX5_row_87 : decode cX5_row 87 = .ok (.aload_n 0, 1) := by decide +kernel
theorem dX5_row_88 : decode cX5_row 88 = .ok (.getfield 63, 3) := by decide +kernel
theorem dX5_row_91 : decode cX5_row 91 = .ok (.sipush 160, 3) := by decide +kernel
theorem dX5_row_94 : decode cX5_row 94 = .ok (.iload_n 1, 1) := by decide +kernel
theorem dX5_row_95 : decode cX5_row 95 = .ok (.imul, 1) := by decide +kernel
theorem dX5_row_96 : decode cX5_row 96 = .ok (.iload 4, 2) := by decide +kernel
theorem dX5_row_98 : decode cX5_row 98 = .ok (.iadd, 1) := by decide +kernel
theorem dX5_row_99 : decode cX5_row 99 = .ok (.lconst 0, 1) := by decide +kernel
theorem dX5_row_100 : decode cX5_row 100 = .ok (.lastore, 1) := by decide +kernel
theorem dX5_row_101 : decode cX5_row 101 = .ok (.iinc 4 1, 3) := by decide +kernel
theorem dX5_row_104 : decode cX5_row 104 = .ok (.goto (-25), 3) := by decide +kernel
theorem dX5_row_107 : decode cX5_row 107 = .ok (.iconst 1, 1) := by decide +kernel
theorem dX5_row_108 : decode cX5_row 108 = .ok (.ireturn, 1) := by decide +kernel
theorem dX5_set_0 : decode cX5_set 0 = .ok (.aload_n 0, 1) := by decide +kernel
theorem dX5_set_1 : decode cX5_set 1 = .ok (.iload_n 1, 1) := by decide +kernel
theorem dX5_set_2 : decode cX5_set 2 = .ok (.invokevirtual 95, 3) := by decide +kernel
theorem dX5_set_5 : decode cX5_set 5 = .ok (.ifCond .ne 9, 3) := by decide +kernel
theorem dX5_set_8 : decode cX5_set 8 = .ok (.aload_n 0, 1) := by decide +kernel
theorem dX5_set_9 : decode cX5_set 9 = .ok (.iconst (-1), 1) := by decide +kernel
theorem dX5_set_10 : decode cX5_set 10 = .ok (.invokevirtual 99, 3) := by decide +kernel
theorem dX5_set_13 : decode cX5_set 13 = .ok (.ireturn, 1) := by decide +kernel
theorem dX5_set_14 : decode cX5_set 14 = .ok (.aload_n 0, 1) := by decide +kernel
theorem dX5_set_15 : decode cX5_set 15 = .ok (.getfield 51, 3) := by decide +kernel
theorem dX5_set_18 : decode cX5_set 18 = .ok (.iload_n 1, 1) := by decide +kernel
theorem dX5_set_19 : decode cX5_set 19 = .ok (.iaload, 1) := by decide +kernel
theorem dX5_set_20 : decode cX5_set 20 = .ok (.iconst 2, 1) := by decide +kernel
theorem dX5_set_21 : decode cX5_set 21 = .ok (.if_icmp .ne 10, 3) := by decide +kernel
theorem dX5_set_24 : decode cX5_set 24 = .ok (.aload_n 0, 1) := by decide +kernel
theorem dX5_set_25 : decode cX5_set 25 = .ok (.bipush (-2), 2) := by decide +kernel
theorem dX5_set_27 : decode cX5_set 27 = .ok (.invokevirtual 99, 3) := by decide +kernel
theorem dX5_set_30 : decode cX5_set 30 = .ok (.ireturn, 1) := by decide +kernel
theorem dX5_set_31 : decode cX5_set 31 = .ok (.aload_n 0, 1) := by decide +kernel
theorem dX5_set_32 : decode cX5_set 32 = .ok (.getfield 51, 3) := by decide +kernel
theorem dX5_set_35 : decode cX5_set 35 = .ok (.iload_n 1, 1) := by decide +kernel
theorem dX5_set_36 : decode cX5_set 36 = .ok (.iaload, 1) := by decide +kernel
theorem dX5_set_37 : decode cX5_set 37 = .ok (.ifCond .ne 10, 3) := by decide +kernel
theorem dX5_set_40 : decode cX5_set 40 = .ok (.aload_n 0, 1) := by decide +kernel
theorem dX5_set_41 : decode cX5_set 41 = .ok (.bipush (-3), 2) := by decide +kernel
theorem dX5_set_43 : decode cX5_set 43 = .ok (.invokevirtual 99, 3) := by decide +kernel
theorem dX5_set_46 : decode cX5_set 46 = .ok (.ireturn, 1) := by decide +kernel
theorem dX5_set_47 : decode cX5_set 47 = .ok (.iload_n 2, 1) := by decide +kernel
theorem dX5_set_48 : decode cX5_set 48 = .ok (.ifCond .lt 13, 3) := by decide +kernel
theorem dX5_set_51 : decode cX5_set 51 = .ok (.iload_n 2, 1) := by decide +kernel
theorem dX5_set_52 : decode cX5_set 52 = .ok (.aload_n 0, 1) := by decide +kernel
theorem dX5_set_53 : decode cX5_set 53 = .ok (.getfield 57, 3) := by decide +kernel
theorem dX5_set_56 : decode cX5_set 56 = .ok (.iload_n 1, 1) := by decide +kernel
theorem dX5_set_57 : decode cX5_set 57 = .ok (.iaload, 1) := by decide +kernel
theorem dX5_set_58 : decode cX5_set 58 = .ok (.if_icmp .lt 10, 3) := by decide +kernel
theorem dX5_set_61 : decode cX5_set 61 = .ok (.aload_n 0, 1) := by decide +kernel
theorem dX5_set_62 : decode cX5_set 62 = .ok (.bipush (-5), 2) := by decide +kernel
theorem dX5_set_64 : decode cX5_set 64 = .ok (.invokevirtual 99, 3) := by decide +kernel
theorem dX5_set_67 : decode cX5_set 67 = .ok (.ireturn, 1) := by decide +kernel
theorem dX5_set_68 : decode cX5_set 68 = .ok (.aload_n 0, 1) := by decide +kernel
theorem dX5_set_69 : decode cX5_set 69 = .ok (.getfield 63, 3) := by decide +kernel
theorem dX5_set_72 : decode cX5_set 72 = .ok (.sipush 160, 3) := by decide +kernel
theorem dX5_set_75 : decode cX5_set 75 = .ok (.iload_n 1, 1) := by decide +kernel
theorem dX5_set_76 : decode cX5_set 76 = .ok (.imul, 1) := by decide +kernel
theorem dX5_set_77 : decode cX5_set 77 = .ok (.iload_n 2, 1) := by decide +kernel
theorem dX5_set_78 : decode cX5_set 78 = .ok (.iadd, 1) := by decide +kernel
theorem dX5_set_79 : decode cX5_set 79 = .ok (.aload_n 0, 1) := by decide +kernel
theorem dX5_set_80 : decode cX5_set 80 = .ok (.getfield 54, 3) := by decide +kernel
theorem dX5_set_83 : decode cX5_set 83 = .ok (.iload_n 1, 1) := by decide +kernel
theorem dX5_set_84 : decode cX5_set 84 = .ok (.iaload, 1) := by decide +kernel
theorem dX5_set_85 : decode cX5_set 85 = .ok (.ifCond .ne 10, 3) := by decide +kernel
theorem dX5_set_88 : decode cX5_set 88 = .ok (.lload_n 3, 1) := by decide +kernel
theorem dX5_set_89 : decode cX5_set 89 = .ok (.l2i, 1) := by decide +kernel
theorem dX5_set_90 : decode cX5_set 90 = .ok (.i2b, 1) := by decide +kernel
theorem dX5_set_91 : decode cX5_set 91 = .ok (.i2l, 1) := by decide +kernel
theorem dX5_set_92 : decode cX5_set 92 = .ok (.goto 37, 3) := by decide +kernel
theorem dX5_set_95 : decode cX5_set 95 = .ok (.aload_n 0, 1) := by decide +kernel
theorem dX5_set_96 : decode cX5_set 96 = .ok (.getfield 54, 3) := by decide +kernel
theorem dX5_set_99 : decode cX5_set 99 = .ok (.iload_n 1, 1) := by decide +kernel
theorem dX5_set_100 : decode cX5_set 100 = .ok (.iaload, 1) := by decide +kernel
theorem dX5_set_101 : decode cX5_set 101 = .ok (.iconst 1, 1) := by decide +kernel
theorem dX5_set_102 : decode cX5_set 102 = .ok (.if_icmp .ne 10, 3) := by decide +kernel
theorem dX5_set_105 : decode cX5_set 105 = .ok (.lload_n 3, 1) := by decide +kernel
theorem dX5_set_106 : decode cX5_set 106 = .ok (.l2i, 1) := by decide +kernel
theorem dX5_set_107 : decode cX5_set 107 = .ok (.i2s, 1) := by decide +kernel
theorem dX5_set_108 : decode cX5_set 108 = .ok (.i2l, 1) := by decide +kernel
theorem dX5_set_109 : decode cX5_set 109 = .ok (.goto 20, 3) := by decide +kernel
theorem dX5_set_112 : decode cX5_set 112 = .ok (.aload_n 0, 1) := by decide +kernel
theorem dX5_set_113 : decode cX5_set 113 = .ok (.getfield 54, 3) := by decide +kernel
theorem dX5_set_116 : decode cX5_set 116 = .ok (.iload_n 1, 1) := by decide +kernel
theorem dX5_set_117 : decode cX5_set 117 = .ok (.iaload, 1) := by decide +kernel
theorem dX5_set_118 : decode cX5_set 118 = .ok (.iconst 2, 1) := by decide +kernel
theorem dX5_set_119 : decode cX5_set 119 = .ok (.if_icmp .ne 9, 3) := by decide +kernel
theorem dX5_set_122 : decode cX5_set 122 = .ok (.lload_n 3, 1) := by decide +kernel
theorem dX5_set_123 : decode cX5_set 123 = .ok (.l2i, 1) := by decide +kernel
theorem dX5_set_124 : decode cX5_set 124 = .ok (.i2l, 1) := by decide +kernel
theorem dX5_set_125 : decode cX5_set 125 = .ok (.goto 4, 3) := by decide +kernel
theorem dX5_set_128 : decode cX5_set 128 = .ok (.lload_n 3, 1) := by decide +kernel
theorem dX5_set_129 : decode cX5_set 129 = .ok (.lastore, 1) := by decide +kernel
theorem dX5_set_130 : decode cX5_set 130 = .ok (.iconst 1, 1) := by decide +kernel
theorem dX5_set_131 : decode cX5_set 131 = .ok (.ireturn, 1) := by decide +kernel
theorem dX5_copy_0 : decode cX5_copy 0 = .ok (.aload_n 0, 1) := by decide +kernel
theorem dX5_copy_1 : decode cX5_copy 1 = .ok (.iload_n 1, 1) := by decide +kernel
theorem dX5_copy_2 : decode cX5_copy 2 = .ok (.invokevirtual 95, 3) := by decide +kernel
theorem dX5_copy_5 : decode cX5_copy 5 = .ok (.ifCond .eq 11, 3) := by decide +kernel
theorem dX5_copy_8 : decode cX5_copy 8 = .ok (.aload_n 0, 1) := by decide +kernel
theorem dX5_copy_9 : decode cX5_copy 9 = .ok (.iload_n 2, 1) := by decide +kernel
theorem dX5_copy_10 : decode cX5_copy 10 = .ok (.invokevirtual 95, 3) := by decide +kernel
theorem dX5_copy_13 : decode cX5_copy 13 = .ok (.ifCond .ne 9, 3) := by decide +kernel
theorem dX5_copy_16 : decode cX5_copy 16 = .ok (.aload_n 0, 1) := by decide +kernel
theorem dX5_copy_17 : decode cX5_copy 17 = .ok (.iconst (-1), 1) := by decide +kernel
theorem dX5_copy_18 : decode cX5_copy 18 = .ok (.invokevirtual 99, 3) := by decide +kernel
theorem dX5_copy_21 : decode cX5_copy 21 = .ok (.ireturn, 1) := by decide +kernel
theorem dX5_copy_22 : decode cX5_copy 22 = .ok (.aload_n 0, 1) := by decide +kernel
theorem dX5_copy_23 : decode cX5_copy 23 = .ok (.getfield 51, 3) := by decide +kernel
theorem dX5_copy_26 : decode cX5_copy 26 = .ok (.iload_n 1, 1) := by decide +kernel
theorem dX5_copy_27 : decode cX5_copy 27 = .ok (.iaload, 1) := by decide +kernel
theorem dX5_copy_28 : decode cX5_copy 28 = .ok (.iconst 2, 1) := by decide +kernel
theorem dX5_copy_29 : decode cX5_copy 29 = .ok (.if_icmp .eq 48, 3) := by decide +kernel
theorem dX5_copy_32 : decode cX5_copy 32 = .ok (.aload_n 0, 1) := by decide +kernel
theorem dX5_copy_33 : decode cX5_copy 33 = .ok (.getfield 51, 3) := by decide +kernel
theorem dX5_copy_36 : decode cX5_copy 36 = .ok (.iload_n 2, 1) := by decide +kernel
theorem dX5_copy_37 : decode cX5_copy 37 = .ok (.iaload, 1) := by decide +kernel
theorem dX5_copy_38 : decode cX5_copy 38 = .ok (.iconst 2, 1) := by decide +kernel
theorem dX5_copy_39 : decode cX5_copy 39 = .ok (.if_icmp .eq 38, 3) := by decide +kernel
theorem dX5_copy_42 : decode cX5_copy 42 = .ok (.aload_n 0, 1) := by decide +kernel
theorem dX5_copy_43 : decode cX5_copy 43 = .ok (.getfield 51, 3) := by decide +kernel
theorem dX5_copy_46 : decode cX5_copy 46 = .ok (.iload_n 1, 1) := by decide +kernel
theorem dX5_copy_47 : decode cX5_copy 47 = .ok (.iaload, 1) := by decide +kernel
theorem dX5_copy_48 : decode cX5_copy 48 = .ok (.iconst 1, 1) := by decide +kernel
theorem dX5_copy_49 : decode cX5_copy 49 = .ok (.if_icmp .ne 35, 3) := by decide +kernel
theorem dX5_copy_52 : decode cX5_copy 52 = .ok (.aload_n 0, 1) := by decide +kernel
theorem dX5_copy_53 : decode cX5_copy 53 = .ok (.getfield 51, 3) := by decide +kernel
theorem dX5_copy_56 : decode cX5_copy 56 = .ok (.iload_n 2, 1) := by decide +kernel
theorem dX5_copy_57 : decode cX5_copy 57 = .ok (.iaload, 1) := by decide +kernel
theorem dX5_copy_58 : decode cX5_copy 58 = .ok (.iconst 1, 1) := by decide +kernel
theorem dX5_copy_59 : decode cX5_copy 59 = .ok (.if_icmp .ne 25, 3) := by decide +kernel
theorem dX5_copy_62 : decode cX5_copy 62 = .ok (.aload_n 0, 1) := by decide +kernel
theorem dX5_copy_63 : decode cX5_copy 63 = .ok (.getfield 54, 3) := by decide +kernel
theorem dX5_copy_66 : decode cX5_copy 66 = .ok (.iload_n 1, 1) := by decide +kernel
theorem dX5_copy_67 : decode cX5_copy 67 = .ok (.iaload, 1) := by decide +kernel
theorem dX5_copy_68 : decode cX5_copy 68 = .ok (.aload_n 0, 1) := by decide +kernel
theorem dX5_copy_69 : decode cX5_copy 69 = .ok (.getfield 54, 3) := by decide +kernel
theorem dX5_copy_72 : decode cX5_copy 72 = .ok (.iload_n 2, 1) := by decide +kernel
theorem dX5_copy_73 : decode cX5_copy 73 = .ok (.iaload, 1) := by decide +kernel
theorem dX5_copy_74 : decode cX5_copy 74 = .ok (.if_icmp .eq 10, 3) := by decide +kernel
theorem dX5_copy_77 : decode cX5_copy 77 = .ok (.aload_n 0, 1) := by decide +kernel
theorem dX5_copy_78 : decode cX5_copy 78 = .ok (.bipush (-2), 2) := by decide +kernel
theorem dX5_copy_80 : decode cX5_copy 80 = .ok (.invokevirtual 99, 3) := by decide +kernel
theorem dX5_copy_83 : decode cX5_copy 83 = .ok (.ireturn, 1) := by decide +kernel
theorem dX5_copy_84 : decode cX5_copy 84 = .ok (.aload_n 0, 1) := by decide +kernel
theorem dX5_copy_85 : decode cX5_copy 85 = .ok (.getfield 51, 3) := by decide +kernel
theorem dX5_copy_88 : decode cX5_copy 88 = .ok (.iload_n 1, 1) := by decide +kernel
theorem dX5_copy_89 : decode cX5_copy 89 = .ok (.iaload, 1) := by decide +kernel
theorem dX5_copy_90 : decode cX5_copy 90 = .ok (.ifCond .eq 12, 3) := by decide +kernel
theorem dX5_copy_93 : decode cX5_copy 93 = .ok (.aload_n 0, 1) := by decide +kernel
theorem dX5_copy_94 : decode cX5_copy 94 = .ok (.getfield 51, 3) := by decide +kernel
theorem dX5_copy_97 : decode cX5_copy 97 = .ok (.iload_n 2, 1) := by decide +kernel
theorem dX5_copy_98 : decode cX5_copy 98 = .ok (.iaload, 1) := by decide +kernel
theorem dX5_copy_99 : decode cX5_copy 99 = .ok (.ifCond .ne 10, 3) := by decide +kernel
theorem dX5_copy_102 : decode cX5_copy 102 = .ok (.aload_n 0, 1) := by decide +kernel
theorem dX5_copy_103 : decode cX5_copy 103 = .ok (.bipush (-3), 2) := by decide +kernel
theorem dX5_copy_105 : decode cX5_copy 105 = .ok (.invokevirtual 99, 3) := by decide +kernel
theorem dX5_copy_108 : decode cX5_copy 108 = .ok (.ireturn, 1) := by decide +kernel
theorem dX5_copy_109 : decode cX5_copy 109 = .ok (.iload 5, 2) := by decide +kernel
theorem dX5_copy_111 : decode cX5_copy 111 = .ok (.ifCond .ge 10, 3) := by decide +kernel
theorem dX5_copy_114 : decode cX5_copy 114 = .ok (.aload_n 0, 1) := by decide +kernel
theorem dX5_copy_115 : decode cX5_copy 115 = .ok (.bipush (-4), 2) := by decide +kernel
theorem dX5_copy_117 : decode cX5_copy 117 = .ok (.invokevirtual 99, 3) := by decide +kernel
theorem dX5_copy_120 : decode cX5_copy 120 = .ok (.ireturn, 1) := by decide +kernel
theorem dX5_copy_121 : decode cX5_copy 121 = .ok (.iload_n 3, 1) := by decide +kernel
theorem dX5_copy_122 : decode cX5_copy 122 = .ok (.ifCond .lt 35, 3) := by decide +kernel
theorem dX5_copy_125 : decode cX5_copy 125 = .ok (.iload 4, 2) := by decide +kernel
theorem dX5_copy_127 : decode cX5_copy 127 = .ok (.ifCond .lt 30, 3) := by decide +kernel
theorem dX5_copy_130 : decode cX5_copy 130 = .ok (.iload_n 3, 1) := by decide +kernel
theorem dX5_copy_131 : decode cX5_copy 131 = .ok (.aload_n 0, 1) := by decide +kernel
theorem dX5_copy_132 : decode cX5_copy 132 = .ok (.getfield 57, 3) := by decide +kernel
theorem dX5_copy_135 : decode cX5_copy 135 = .ok (.iload_n 1, 1) := by decide +kernel
theorem dX5_copy_136 : decode cX5_copy 136 = .ok (.iaload, 1) := by decide +kernel
theorem dX5_copy_137 : decode cX5_copy 137 = .ok (.iload 5, 2) := by decide +kernel
theorem dX5_copy_139 : decode cX5_copy 139 = .ok (.isub, 1) := by decide +kernel
theorem dX5_copy_140 : decode cX5_copy 140 = .ok (.if_icmp .gt 17, 3) := by decide +kernel
theorem dX5_copy_143 : decode cX5_copy 143 = .ok (.iload 4, 2) := by decide +kernel
theorem dX5_copy_145 : decode cX5_copy 145 = .ok (.aload_n 0, 1) := by decide +kernel
theorem dX5_copy_146 : decode cX5_copy 146 = .ok (.getfield 57, 3) := by decide +kernel
theorem dX5_copy_149 : decode cX5_copy 149 = .ok (.iload_n 2, 1) := by decide +kernel
theorem dX5_copy_150 : decode cX5_copy 150 = .ok (.iaload, 1) := by decide +kernel
theorem dX5_copy_151 : decode cX5_copy 151 = .ok (.iload 5, 2) := by decide +kernel
theorem dX5_copy_153 : decode cX5_copy 153 = .ok (.isub, 1) := by decide +kernel
theorem dX5_copy_154 : decode cX5_copy 154 = .ok (.if_icmp .le 10, 3) := by decide +kernel
theorem dX5_copy_157 : decode cX5_copy 157 = .ok (.aload_n 0, 1) := by decide +kernel
theorem dX5_copy_158 : decode cX5_copy 158 = .ok (.bipush (-5), 2) := by decide +kernel
theorem dX5_copy_160 : decode cX5_copy 160 = .ok (.invokevirtual 99, 3) := by decide +kernel
theorem dX5_copy_163 : decode cX5_copy 163 = .ok (.ireturn, 1) := by decide +kernel
theorem dX5_copy_164 : decode cX5_copy 164 = .ok (.iconst 0, 1) := by decide +kernel
theorem dX5_copy_165 : decode cX5_copy 165 = .ok (.istore 6, 2) := by decide +kernel
theorem dX5_copy_167 : decode cX5_copy 167 = .ok (.iload 6, 2) := by decide +kernel
theorem dX5_copy_169 : decode cX5_copy 169 = .ok (.iload 5, 2) := by decide +kernel
theorem dX5_copy_171 : decode cX5_copy 171 = .ok (.if_icmp .ge 31, 3) := by decide +kernel
theorem dX5_copy_174 : decode cX5_copy 174 = .ok (.aload_n 0, 1) := by decide +kernel
theorem dX5_copy_175 : decode cX5_copy 175 = .ok (.getfield 67, 3) := by decide +kernel
theorem dX5_copy_178 : decode cX5_copy 178 = .ok (.iload 6, 2) := by decide +kernel
theorem dX5_copy_180 : decode cX5_copy 180 = .ok (.aload_n 0, 1) := by decide +kernel
theorem dX5_copy_181 : decode cX5_copy 181 = .ok (.getfield 63, 3) := by decide +kernel
theorem dX5_copy_184 : decode cX5_copy 184 = .ok (.sipush 160, 3) := by decide +kernel
theorem dX5_copy_187 : decode cX5_copy 187 = .ok (.iload_n 1, 1) := by decide +kernel
theorem dX5_copy_188 : decode cX5_copy 188 = .ok (.imul, 1) := by decide +kernel
theorem dX5_copy_189 : decode cX5_copy 189 = .ok (.iload_n 3, 1) := by decide +kernel
theorem dX5_copy_190 : decode cX5_copy 190 = .ok (.iadd, 1) := by decide +kernel
theorem dX5_copy_191 : decode cX5_copy 191 = .ok (.iload 6, 2) := by decide +kernel
theorem dX5_copy_193 : decode cX5_copy 193 = .ok (.iadd, 1) := by decide +kernel
theorem dX5_copy_194 : decode cX5_copy 194 = .ok (.laload, 1) := by decide +kernel
theorem dX5_copy_195 : decode cX5_copy 195 = .ok (.lastore, 1) := by decide +kernel
theorem dX5_copy_196 : decode cX5_copy 196 = .ok (.iinc 6 1, 3) := by decide +kernel
theorem dX5_copy_199 : decode cX5_copy 199 = .ok (.goto (-32), 3) := by decide +kernel
theorem dX5_copy_202 : decode cX5_copy 202 = .ok (.iconst 0, 1) := by decide +kernel
theorem dX5_copy_203 : decode cX5_copy 203 = .ok (.istore 6, 2) := by decide +kernel
theorem dX5_copy_205 : decode cX5_copy 205 = .ok (.iload 6, 2) := by decide +kernel
theorem dX5_copy_207 : decode cX5_copy 207 = .ok (.iload 5, 2) := by decide +kernel
theorem dX5_copy_209 : decode cX5_copy 209 = .ok (.if_icmp .ge 32, 3) := by decide +kernel
theorem dX5_copy_212 : decode cX5_copy 212 = .ok (.aload_n 0, 1) := by decide +kernel
theorem dX5_copy_213 : decode cX5_copy 213 = .ok (.getfield 63, 3) := by decide +kernel
theorem dX5_copy_216 : decode cX5_copy 216 = .ok (.sipush 160, 3) := by decide +kernel
theorem dX5_copy_219 : decode cX5_copy 219 = .ok (.iload_n 2, 1) := by decide +kernel
theorem dX5_copy_220 : decode cX5_copy 220 = .ok (.imul, 1) := by decide +kernel
theorem dX5_copy_221 : decode cX5_copy 221 = .ok (.iload 4, 2) := by decide +kernel
theorem dX5_copy_223 : decode cX5_copy 223 = .ok (.iadd, 1) := by decide +kernel
theorem dX5_copy_224 : decode cX5_copy 224 = .ok (.iload 6, 2) := by decide +kernel
theorem dX5_copy_226 : decode cX5_copy 226 = .ok (.iadd, 1) := by decide +kernel
theorem dX5_copy_227 : decode cX5_copy 227 = .ok (.aload_n 0, 1) := by decide +kernel
theorem dX5_copy_228 : decode cX5_copy 228 = .ok (.getfield 67, 3) := by decide +kernel
theorem dX5_copy_231 : decode cX5_copy 231 = .ok (.iload 6, 2) := by decide +kernel
theorem dX5_copy_233 : decode cX5_copy 233 = .ok (.laload, 1) := by decide +kernel
theorem dX5_copy_234 : decode cX5_copy 234 = .ok (.lastore, 1) := by decide +kernel
theorem dX5_copy_235 : decode cX5_copy 235 = .ok (.iinc 6 1, 3) := by decide +kernel
theorem dX5_copy_238 : decode cX5_copy 238 = .ok (.goto (-33), 3) := by decide +kernel
theorem dX5_copy_241 : decode cX5_copy 241 = .ok (.iconst 1, 1) := by decide +kernel
theorem dX5_copy_242 : decode cX5_copy 242 = .ok (.ireturn, 1) := by decide +kernel
theorem dX5_element_0 : decode cX5_element 0 = .ok (.aload_n 0, 1) := by decide +kernel
theorem dX5_element_1 : decode cX5_element 1 = .ok (.iload_n 1, 1) := by decide +kernel
theorem dX5_element_2 : decode cX5_element 2 = .ok (.invokevirtual 95, 3) := by decide +kernel
theorem dX5_element_5 : decode cX5_element 5 = .ok (.ifCond .eq 42, 3) := by decide +kernel
theorem dX5_element_8 : decode cX5_element 8 = .ok (.aload_n 0, 1) := by decide +kernel
theorem dX5_element_9 : decode cX5_element 9 = .ok (.getfield 51, 3) := by decide +kernel
theorem dX5_element_12 : decode cX5_element 12 = .ok (.iload_n 1, 1) := by decide +kernel
theorem dX5_element_13 : decode cX5_element 13 = .ok (.iaload, 1) := by decide +kernel
theorem dX5_element_14 : decode cX5_element 14 = .ok (.iconst 1, 1) := by decide +kernel
theorem dX5_element_15 : decode cX5_element 15 = .ok (.if_icmp .ne 32, 3) := by decide +kernel
theorem dX5_element_18 : decode cX5_element 18 = .ok (.iload_n 2, 1) := by decide +kernel
theorem dX5_element_19 : decode cX5_element 19 = .ok (.ifCond .lt 28, 3) := by decide +kernel
theorem dX5_element_22 : decode cX5_element 22 = .ok (.iload_n 2, 1) := by decide +kernel
theorem dX5_element_23 : decode cX5_element 23 = .ok (.aload_n 0, 1) := by decide +kernel
theorem dX5_element_24 : decode cX5_element 24 = .ok (.getfield 57, 3) := by decide +kernel
theorem dX5_element_27 : decode cX5_element 27 = .ok (.iload_n 1, 1) := by decide +kernel
theorem dX5_element_28 : decode cX5_element 28 = .ok (.iaload, 1) := by decide +kernel
theorem dX5_element_29 : decode cX5_element 29 = .ok (.if_icmp .ge 18, 3) := by decide +kernel
theorem dX5_element_32 : decode cX5_element 32 = .ok (.aload_n 0, 1) := by decide +kernel
theorem dX5_element_33 : decode cX5_element 33 = .ok (.getfield 63, 3) := by decide +kernel
theorem dX5_element_36 : decode cX5_element 36 = .ok (.sipush 160, 3) := by decide +kernel
theorem dX5_element_39 : decode cX5_element 39 = .ok (.iload_n 1, 1) := by decide +kernel
theorem dX5_element_40 : decode cX5_element 40 = .ok (.imul, 1) := by decide +kernel
theorem dX5_element_41 : decode cX5_element 41 = .ok (.iload_n 2, 1) := by decide +kernel
theorem dX5_element_42 : decode cX5_element 42 = .ok (.iadd, 1) := by decide +kernel
theorem dX5_element_43 : decode cX5_element 43 = .ok (.laload, 1) := by decide +kernel
theorem dX5_element_44 : decode cX5_element 44 = .ok (.goto 4, 3) := by decide +kernel
theorem dX5_element_47 : decode cX5_element 47 = .ok (.lconst 0, 1) := by decide +kernel
theorem dX5_element_48 : decode cX5_element 48 = .ok (.lreturn, 1) := by decide +kernel
theorem dX5_show_0 : decode cX5_show 0 = .ok (.aload_n 0, 1) := by decide +kernel
theorem dX5_show_1 : decode cX5_show 1 = .ok (.iload_n 1, 1) := by decide +kernel
theorem dX5_show_2 : decode cX5_show 2 = .ok (.invokevirtual 95, 3) := by decide +kernel
theorem dX5_show_5 : decode cX5_show 5 = .ok (.ifCond .eq 16, 3) := by decide +kernel
theorem dX5_show_8 : decode cX5_show 8 = .ok (.iload_n 2, 1) := by decide +kernel
theorem dX5_show_9 : decode cX5_show 9 = .ok (.iconst (-1), 1) := by decide +kernel
theorem dX5_show_10 : decode cX5_show 10 = .ok (.if_icmp .eq 17, 3) := by decide +kernel
theorem dX5_show_13 : decode cX5_show 13 = .ok (.aload_n 0, 1) := by decide +kernel
theorem dX5_show_14 : decode cX5_show 14 = .ok (.iload_n 2, 1) := by decide +kernel
theorem dX5_show_15 : decode cX5_show 15 = .ok (.invokevirtual 103, 3) := by decide +kernel
theorem dX5_show_18 : decode cX5_show 18 = .ok (.ifCond .ne 9, 3) := by decide +kernel
theorem dX5_show_21 : decode cX5_show 21 = .ok (.aload_n 0, 1) := by decide +kernel
theorem dX5_show_22 : decode cX5_show 22 = .ok (.iconst (-1), 1) := by decide +kernel
theorem dX5_show_23 : decode cX5_show 23 = .ok (.invokevirtual 99, 3) := by decide +kernel
theorem dX5_show_26 : decode cX5_show 26 = .ok (.ireturn, 1) := by decide +kernel
theorem dX5_show_27 : decode cX5_show 27 = .ok (.aload_n 0, 1) := by decide +kernel
theorem dX5_show_28 : decode cX5_show 28 = .ok (.getfield 51, 3) := by decide +kernel
theorem dX5_show_31 : decode cX5_show 31 = .ok (.iload_n 1, 1) := by decide +kernel
theorem dX5_show_32 : decode cX5_show 32 = .ok (.iload_n 2, 1) := by decide +kernel
theorem dX5_show_33 : decode cX5_show 33 = .ok (.iconst (-1), 1) := by decide +kernel
theorem dX5_show_34 : decode cX5_show 34 = .ok (.if_icmp .ne 7, 3) := by decide +kernel
theorem dX5_show_37 : decode cX5_show 37 = .ok (.iconst 0, 1) := by decide +kernel
theorem dX5_show_38 : decode cX5_show 38 = .ok (.goto 4, 3) := by decide +kernel
theorem dX5_show_41 : decode cX5_show 41 = .ok (.iconst 2, 1) := by decide +kernel
theorem dX5_show_42 : decode cX5_show 42 = .ok (.iastore, 1) := by decide +kernel
theorem dX5_show_43 : decode cX5_show 43 = .ok (.aload_n 0, 1) := by decide +kernel
theorem dX5_show_44 : decode cX5_show 44 = .ok (.getfield 60, 3) := by decide +kernel
theorem dX5_show_47 : decode cX5_show 47 = .ok (.iload_n 1, 1) := by decide +kernel
theorem dX5_show_48 : decode cX5_show 48 = .ok (.iload_n 2, 1) := by decide +kernel
theorem dX5_show_49 : decode cX5_show 49 = .ok (.iastore, 1) := by decide +kernel
theorem dX5_show_50 : decode cX5_show 50 = .ok (.iload_n 2, 1) := by decide +kernel
theorem dX5_show_51 : decode cX5_show 51 = .ok (.iconst (-1), 1) := by decide +kernel
theorem dX5_show_52 : decode cX5_show 52 = .ok (.if_icmp .ne 7, 3) := by decide +kernel
theorem dX5_show_55 : decode cX5_show 55 = .ok (.iconst 0, 1) := by decide +kernel
theorem dX5_show_56 : decode cX5_show 56 = .ok (.goto 4, 3) := by decide +kernel
theorem dX5_show_59 : decode cX5_show 59 = .ok (.iconst 1, 1) := by decide +kernel
theorem dX5_show_60 : decode cX5_show 60 = .ok (.ireturn, 1) := by decide +kernel
theorem dX5_holds_0 : decode cX5_holds 0 = .ok (.aload_n 0, 1) := by decide +kernel
theorem dX5_holds_1 : decode cX5_holds 1 = .ok (.iload_n 1, 1) := by decide +kernel
theorem dX5_holds_2 : decode cX5_holds 2 = .ok (.invokevirtual 95, 3) := by decide +kernel
theorem dX5_holds_5 : decode cX5_holds 5 = .ok (.ifCond .eq 12, 3) := by decide +kernel
theorem dX5_holds_8 : decode cX5_holds 8 = .ok (.aload_n 0, 1) := by decide +kernel
theorem dX5_holds_9 : decode cX5_holds 9 = .ok (.getfield 51, 3) := by decide +kernel
theorem dX5_holds_12 : decode cX5_holds 12 = .ok (.iload_n 1, 1) := by decide +kernel
theorem dX5_holds_13 : decode cX5_holds 13 = .ok (.iaload, 1) := by decide +kernel
theorem dX5_holds_14 : decode cX5_holds 14 = .ok (.ifCond .ne 5, 3) := by decide +kernel
theorem dX5_holds_17 : decode cX5_holds 17 = .ok (.iconst (-1), 1) := by decide +kernel
theorem dX5_holds_18 : decode cX5_holds 18 = .ok (.ireturn, 1) := by decide +kernel
theorem dX5_holds_19 : decode cX5_holds 19 = .ok (.aload_n 0, 1) := by decide +kernel
theorem dX5_holds_20 : decode cX5_holds 20 = .ok (.getfield 51, 3) := by decide +kernel
theorem dX5_holds_23 : decode cX5_holds 23 = .ok (.iload_n 1, 1) := by decide +kernel
theorem dX5_holds_24 : decode cX5_holds 24 = .ok (.iaload, 1) := by decide +kernel
theorem dX5_holds_25 : decode cX5_holds 25 = .ok (.iconst 1, 1) := by decide +kernel
theorem dX5_holds_26 : decode cX5_holds 26 = .ok (.if_icmp .ne 15, 3) := by decide +kernel
theorem dX5_holds_29 : decode cX5_holds 29 = .ok (.bipush 100, 2) := by decide +kernel
theorem dX5_holds_31 : decode cX5_holds 31 = .ok (.aload_n 0, 1) := by decide +kernel
theorem dX5_holds_32 : decode cX5_holds 32 = .ok (.getfield 54, 3) := by decide +kernel
theorem dX5_holds_35 : decode cX5_holds 35 = .ok (.iload_n 1, 1) := by decide +kernel
theorem dX5_holds_36 : decode cX5_holds 36 = .ok (.iaload, 1) := by decide +kernel
theorem dX5_holds_37 : decode cX5_holds 37 = .ok (.iadd, 1) := by decide +kernel
theorem dX5_holds_38 : decode cX5_holds 38 = .ok (.goto 9, 3) := by decide +kernel
theorem dX5_holds_41 : decode cX5_holds 41 = .ok (.aload_n 0, 1) := by decide +kernel
theorem dX5_holds_42 : decode cX5_holds 42 = .ok (.getfield 60, 3) := by decide +kernel
theorem dX5_holds_45 : decode cX5_holds 45 = .ok (.iload_n 1, 1) := by decide +kernel
theorem dX5_holds_46 : decode cX5_holds 46 = .ok (.iaload, 1) := by decide +kernel
theorem dX5_holds_47 : decode cX5_holds 47 = .ok (.ireturn, 1) := by decide +kernel
theorem dX5_says_0 : decode cX5_says 0 = .ok (.aload_n 0, 1) := by decide +kernel
theorem dX5_says_1 : decode cX5_says 1 = .ok (.iload_n 1, 1) := by decide +kernel
theorem dX5_says_2 : decode cX5_says 2 = .ok (.invokevirtual 95, 3) := by decide +kernel
theorem dX5_says_5 : decode cX5_says 5 = .ok (.ifCond .eq 13, 3) := by decide +kernel
theorem dX5_says_8 : decode cX5_says 8 = .ok (.iload_n 2, 1) := by decide +kernel
theorem dX5_says_9 : decode cX5_says 9 = .ok (.ifCond .lt 9, 3) := by decide +kernel
theorem dX5_says_12 : decode cX5_says 12 = .ok (.iload_n 2, 1) := by decide +kernel
theorem dX5_says_13 : decode cX5_says 13 = .ok (.bipush 6, 2) := by decide +kernel
theorem dX5_says_15 : decode cX5_says 15 = .ok (.if_icmp .le 9, 3) := by decide +kernel
theorem dX5_says_18 : decode cX5_says 18 = .ok (.aload_n 0, 1) := by decide +kernel
theorem dX5_says_19 : decode cX5_says 19 = .ok (.iconst (-1), 1) := by decide +kernel
theorem dX5_says_20 : decode cX5_says 20 = .ok (.invokevirtual 99, 3) := by decide +kernel
theorem dX5_says_23 : decode cX5_says 23 = .ok (.ireturn, 1) := by decide +kernel
theorem dX5_says_24 : decode cX5_says 24 = .ok (.aload_n 0, 1) := by decide +kernel
theorem dX5_says_25 : decode cX5_says 25 = .ok (.getfield 51, 3) := by decide +kernel
theorem dX5_says_28 : decode cX5_says 28 = .ok (.iload_n 1, 1) := by decide +kernel
theorem dX5_says_29 : decode cX5_says 29 = .ok (.iaload, 1) := by decide +kernel
theorem dX5_says_30 : decode cX5_says 30 = .ok (.iconst 1, 1) := by decide +kernel
theorem dX5_says_31 : decode cX5_says 31 = .ok (.if_icmp .ne 10, 3) := by decide +kernel
theorem dX5_says_34 : decode cX5_says 34 = .ok (.aload_n 0, 1) := by decide +kernel
theorem dX5_says_35 : decode cX5_says 35 = .ok (.bipush (-2), 2) := by decide +kernel
theorem dX5_says_37 : decode cX5_says 37 = .ok (.invokevirtual 99, 3) := by decide +kernel
theorem dX5_says_40 : decode cX5_says 40 = .ok (.ireturn, 1) := by decide +kernel
theorem dX5_says_41 : decode cX5_says 41 = .ok (.aload_n 0, 1) := by decide +kernel
theorem dX5_says_42 : decode cX5_says 42 = .ok (.getfield 51, 3) := by decide +kernel
theorem dX5_says_45 : decode cX5_says 45 = .ok (.iload_n 1, 1) := by decide +kernel
theorem dX5_says_46 : decode cX5_says 46 = .ok (.iaload, 1) := by decide +kernel
theorem dX5_says_47 : decode cX5_says 47 = .ok (.ifCond .ne 10, 3) := by decide +kernel
theorem dX5_says_50 : decode cX5_says 50 = .ok (.aload_n 0, 1) := by decide +kernel
theorem dX5_says_51 : decode cX5_says 51 = .ok (.bipush (-3), 2) := by decide +kernel
theorem dX5_says_53 : decode cX5_says 53 = .ok (.invokevirtual 99, 3) := by decide +kernel
theorem dX5_says_56 : decode cX5_says 56 = .ok (.ireturn, 1) := by decide +kernel
theorem dX5_says_57 : decode cX5_says 57 = .ok (.aload_n 0, 1) := by decide +kernel
theorem dX5_says_58 : decode cX5_says 58 = .ok (.getfield 60, 3) := by decide +kernel
theorem dX5_says_61 : decode cX5_says 61 = .ok (.iload_n 1, 1) := by decide +kernel
theorem dX5_says_62 : decode cX5_says 62 = .ok (.iaload, 1) := by decide +kernel
theorem dX5_says_63 : decode cX5_says 63 = .ok (.istore_n 3, 1) := by decide +kernel
theorem dX5_says_64 : decode cX5_says 64 = .ok (.aload_n 0, 1) := by decide +kernel
theorem dX5_says_65 : decode cX5_says 65 = .ok (.getfield 36, 3) := by decide +kernel
theorem dX5_says_68 : decode cX5_says 68 = .ok (.iload_n 3, 1) := by decide +kernel
theorem dX5_says_69 : decode cX5_says 69 = .ok (.iaload, 1) := by decide +kernel
theorem dX5_says_70 : decode cX5_says 70 = .ok (.istore 4, 2) := by decide +kernel
theorem dX5_says_72 : decode cX5_says 72 = .ok (.iload_n 2, 1) := by decide +kernel
theorem dX5_says_73 : decode cX5_says 73 = .ok (.ifCond .eq 38, 3) := by decide +kernel
theorem dX5_says_76 : decode cX5_says 76 = .ok (.iload_n 2, 1) := by decide +kernel
theorem dX5_says_77 : decode cX5_says 77 = .ok (.iload 4, 2) := by decide +kernel
theorem dX5_says_79 : decode cX5_says 79 = .ok (.if_icmp .eq 32, 3) := by decide +kernel
theorem dX5_says_82 : decode cX5_says 82 = .ok (.iload_n 2, 1) := by decide +kernel
theorem dX5_says_83 : decode cX5_says 83 = .ok (.iconst 1, 1) := by decide +kernel
theorem dX5_says_84 : decode cX5_says 84 = .ok (.if_icmp .ne 9, 3) := by decide +kernel
theorem dX5_says_87 : decode cX5_says 87 = .ok (.iload 4, 2) := by decide +kernel
theorem dX5_says_89 : decode cX5_says 89 = .ok (.iconst 3, 1) := by decide +kernel
theorem dX5_says_90 : decode cX5_says 90 = .ok (.if_icmp .eq 21, 3) := by decide +kernel
theorem dX5_says_93 : decode cX5_says 93 = .ok (.iload_n 2, 1) := by decide +kernel
theorem dX5_says_94 : decode cX5_says 94 = .ok (.iconst 4, 1) := by decide +kernel
theorem dX5_says_95 : decode cX5_says 95 = .ok (.if_icmp .ne 9, 3) := by decide +kernel
theorem dX5_says_98 : decode cX5_says 98 = .ok (.iload 4, 2) := by decide +kernel
theorem dX5_says_100 : decode cX5_says 100 = .ok (.iconst 5, 1) := by decide +kernel
theorem dX5_says_101 : decode cX5_says 101 = .ok (.if_icmp .eq 10, 3) := by decide +kernel
theorem dX5_says_104 : decode cX5_says 104 = .ok (.aload_n 0, 1) := by decide +kernel
theorem dX5_says_105 : decode cX5_says 105 = .ok (.bipush (-2), 2) := by decide +kernel
theorem dX5_says_107 : decode cX5_says 107 = .ok (.invokevirtual 99, 3) := by decide +kernel
theorem dX5_says_110 : decode cX5_says 110 = .ok (.ireturn, 1) := by decide +kernel
theorem dX5_says_111 : decode cX5_says 111 = .ok (.aload_n 0, 1) := by decide +kernel
theorem dX5_says_112 : decode cX5_says 112 = .ok (.iload_n 3, 1) := by decide +kernel
theorem dX5_says_113 : decode cX5_says 113 = .ok (.invokevirtual 106, 3) := by decide +kernel
theorem dX5_says_116 : decode cX5_says 116 = .ok (.istore 5, 2) := by decide +kernel
theorem dX5_says_118 : decode cX5_says 118 = .ok (.iload_n 2, 1) := by decide +kernel
theorem dX5_says_119 : decode cX5_says 119 = .ok (.ifCond .ne 8, 3) := by decide +kernel
theorem dX5_says_122 : decode cX5_says 122 = .ok (.iload 5, 2) := by decide +kernel
theorem dX5_says_124 : decode cX5_says 124 = .ok (.goto 31, 3) := by decide +kernel
theorem dX5_says_127 : decode cX5_says 127 = .ok (.iload_n 2, 1) := by decide +kernel
theorem dX5_says_128 : decode cX5_says 128 = .ok (.bipush 6, 2) := by decide +kernel
theorem dX5_says_130 : decode cX5_says 130 = .ok (.if_icmp .ne 10, 3) := by decide +kernel
theorem dX5_says_133 : decode cX5_says 133 = .ok (.iload 5, 2) := by decide +kernel
theorem dX5_says_135 : decode cX5_says 135 = .ok (.iconst 2, 1) := by decide +kernel
theorem dX5_says_136 : decode cX5_says 136 = .ok (.idiv, 1) := by decide +kernel
theorem dX5_says_137 : decode cX5_says 137 = .ok (.goto 18, 3) := by decide +kernel
theorem dX5_says_140 : decode cX5_says 140 = .ok (.aload_n 0, 1) := by decide +kernel
theorem dX5_says_141 : decode cX5_says 141 = .ok (.iload_n 3, 1) := by decide +kernel
theorem dX5_says_142 : decode cX5_says 142 = .ok (.iload 5, 2) := by decide +kernel
theorem dX5_says_144 : decode cX5_says 144 = .ok (.invokevirtual 109, 3) := by decide +kernel
theorem dX5_says_147 : decode cX5_says 147 = .ok (.ifCond .eq 7, 3) := by decide +kernel
theorem dX5_says_150 : decode cX5_says 150 = .ok (.iconst 1, 1) := by decide +kernel
theorem dX5_says_151 : decode cX5_says 151 = .ok (.goto 4, 3) := by decide +kernel
theorem dX5_says_154 : decode cX5_says 154 = .ok (.iconst 0, 1) := by decide +kernel
theorem dX5_says_155 : decode cX5_says 155 = .ok (.ireturn, 1) := by decide +kernel
theorem dX5_wants_0 : decode cX5_wants 0 = .ok (.aload_n 0, 1) := by decide +kernel
theorem dX5_wants_1 : decode cX5_wants 1 = .ok (.iload_n 1, 1) := by decide +kernel
theorem dX5_wants_2 : decode cX5_wants 2 = .ok (.invokevirtual 95, 3) := by decide +kernel
theorem dX5_wants_5 : decode cX5_wants 5 = .ok (.ifCond .ne 7, 3) := by decide +kernel
theorem dX5_wants_8 : decode cX5_wants 8 = .ok (.iconst (-1), 1) := by decide +kernel
theorem dX5_wants_9 : decode cX5_wants 9 = .ok (.goto 33, 3) := by decide +kernel
theorem dX5_wants_12 : decode cX5_wants 12 = .ok (.aload_n 0, 1) := by decide +kernel
theorem dX5_wants_13 : decode cX5_wants 13 = .ok (.getfield 51, 3) := by decide +kernel
theorem dX5_wants_16 : decode cX5_wants 16 = .ok (.iload_n 1, 1) := by decide +kernel
theorem dX5_wants_17 : decode cX5_wants 17 = .ok (.iaload, 1) := by decide +kernel
theorem dX5_wants_18 : decode cX5_wants 18 = .ok (.iconst 2, 1) := by decide +kernel
theorem dX5_wants_19 : decode cX5_wants 19 = .ok (.if_icmp .ne 8, 3) := by decide +kernel
theorem dX5_wants_22 : decode cX5_wants 22 = .ok (.bipush (-2), 2) := by decide +kernel
