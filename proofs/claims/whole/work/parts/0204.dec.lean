theorem dX5_town_136 : decode cX5_town 136 = .ok (.ifCond .eq 5, 3) := by decide +kernel
theorem dX5_town_139 : decode cX5_town 139 = .ok (.iload_n 3, 1) := by decide +kernel
theorem dX5_town_140 : decode cX5_town 140 = .ok (.ireturn, 1) := by decide +kernel
theorem dX5_town_141 : decode cX5_town 141 = .ok (.aload_n 0, 1) := by decide +kernel
theorem dX5_town_142 : decode cX5_town 142 = .ok (.aload_n 0, 1) := by decide +kernel
theorem dX5_town_143 : decode cX5_town 143 = .ok (.getfield 76, 3) := by decide +kernel
theorem dX5_town_146 : decode cX5_town 146 = .ok (.iconst 0, 1) := by decide +kernel
theorem dX5_town_147 : decode cX5_town 147 = .ok (.iconst 1, 1) := by decide +kernel
theorem dX5_town_148 : decode cX5_town 148 = .ok (.invokevirtual 211, 3) := by decide +kernel
theorem dX5_town_151 : decode cX5_town 151 = .ok (.aload_n 0, 1) := by decide +kernel
theorem dX5_town_152 : decode cX5_town 152 = .ok (.aload_n 0, 1) := by decide +kernel
theorem dX5_town_153 : decode cX5_town 153 = .ok (.getfield 163, 3) := by decide +kernel
theorem dX5_town_156 : decode cX5_town 156 = .ok (.putfield 22, 3) := by decide +kernel
theorem dX5_town_159 : decode cX5_town 159 = .ok (.aload_n 0, 1) := by decide +kernel
theorem dX5_town_160 : decode cX5_town 160 = .ok (.bipush (-6), 2) := by decide +kernel
theorem dX5_town_162 : decode cX5_town 162 = .ok (.invokevirtual 99, 3) := by decide +kernel
theorem dX5_town_165 : decode cX5_town 165 = .ok (.ireturn, 1) := by decide +kernel
theorem dX5_fault_0 : decode cX5_fault 0 = .ok (.aload_n 0, 1) := by decide +kernel
theorem dX5_fault_1 : decode cX5_fault 1 = .ok (.getfield 22, 3) := by decide +kernel
theorem dX5_fault_4 : decode cX5_fault 4 = .ok (.ireturn, 1) := by decide +kernel
theorem dX5_canBe_0 : decode cX5_canBe 0 = .ok (.aload_n 0, 1) := by decide +kernel
theorem dX5_canBe_1 : decode cX5_canBe 1 = .ok (.iload_n 1, 1) := by decide +kernel
theorem dX5_canBe_2 : decode cX5_canBe 2 = .ok (.invokevirtual 103, 3) := by decide +kernel
theorem dX5_canBe_5 : decode cX5_canBe 5 = .ok (.ifCond .eq 17, 3) := by decide +kernel
theorem dX5_canBe_8 : decode cX5_canBe 8 = .ok (.iload_n 2, 1) := by decide +kernel
theorem dX5_canBe_9 : decode cX5_canBe 9 = .ok (.ifCond .lt 13, 3) := by decide +kernel
theorem dX5_canBe_12 : decode cX5_canBe 12 = .ok (.iload_n 2, 1) := by decide +kernel
theorem dX5_canBe_13 : decode cX5_canBe 13 = .ok (.iconst 1, 1) := by decide +kernel
theorem dX5_canBe_14 : decode cX5_canBe 14 = .ok (.aload_n 0, 1) := by decide +kernel
theorem dX5_canBe_15 : decode cX5_canBe 15 = .ok (.getfield 89, 3) := by decide +kernel
theorem dX5_canBe_18 : decode cX5_canBe 18 = .ok (.ishl, 1) := by decide +kernel
theorem dX5_canBe_19 : decode cX5_canBe 19 = .ok (.if_icmp .lt 9, 3) := by decide +kernel
theorem dX5_canBe_22 : decode cX5_canBe 22 = .ok (.aload_n 0, 1) := by decide +kernel
theorem dX5_canBe_23 : decode cX5_canBe 23 = .ok (.iconst (-1), 1) := by decide +kernel
theorem dX5_canBe_24 : decode cX5_canBe 24 = .ok (.invokevirtual 99, 3) := by decide +kernel
theorem dX5_canBe_27 : decode cX5_canBe 27 = .ok (.ireturn, 1) := by decide +kernel
theorem dX5_canBe_28 : decode cX5_canBe 28 = .ok (.aload_n 0, 1) := by decide +kernel
theorem dX5_canBe_29 : decode cX5_canBe 29 = .ok (.iload_n 1, 1) := by decide +kernel
theorem dX5_canBe_30 : decode cX5_canBe 30 = .ok (.iload_n 2, 1) := by decide +kernel
theorem dX5_canBe_31 : decode cX5_canBe 31 = .ok (.iconst (-1), 1) := by decide +kernel
theorem dX5_canBe_32 : decode cX5_canBe 32 = .ok (.invokevirtual 130, 3) := by decide +kernel
theorem dX5_canBe_35 : decode cX5_canBe 35 = .ok (.ifCond .eq 7, 3) := by decide +kernel
theorem dX5_canBe_38 : decode cX5_canBe 38 = .ok (.iconst 1, 1) := by decide +kernel
theorem dX5_canBe_39 : decode cX5_canBe 39 = .ok (.goto 4, 3) := by decide +kernel
theorem dX5_canBe_42 : decode cX5_canBe 42 = .ok (.iconst 0, 1) := by decide +kernel
theorem dX5_canBe_43 : decode cX5_canBe 43 = .ok (.ireturn, 1) := by decide +kernel
theorem dX5_lets_0 : decode cX5_lets 0 = .ok (.aload_n 0, 1) := by decide +kernel
theorem dX5_lets_1 : decode cX5_lets 1 = .ok (.iload_n 1, 1) := by decide +kernel
theorem dX5_lets_2 : decode cX5_lets 2 = .ok (.iconst 0, 1) := by decide +kernel
theorem dX5_lets_3 : decode cX5_lets 3 = .ok (.iload_n 2, 1) := by decide +kernel
theorem dX5_lets_4 : decode cX5_lets 4 = .ok (.iconst 1, 1) := by decide +kernel
theorem dX5_lets_5 : decode cX5_lets 5 = .ok (.iand, 1) := by decide +kernel
theorem dX5_lets_6 : decode cX5_lets 6 = .ok (.iconst 1, 1) := by decide +kernel
theorem dX5_lets_7 : decode cX5_lets 7 = .ok (.if_icmp .ne 7, 3) := by decide +kernel
theorem dX5_lets_10 : decode cX5_lets 10 = .ok (.iconst 1, 1) := by decide +kernel
theorem dX5_lets_11 : decode cX5_lets 11 = .ok (.goto 4, 3) := by decide +kernel
theorem dX5_lets_14 : decode cX5_lets 14 = .ok (.iconst 0, 1) := by decide +kernel
theorem dX5_lets_15 : decode cX5_lets 15 = .ok (.iload_n 3, 1) := by decide +kernel
theorem dX5_lets_16 : decode cX5_lets 16 = .ok (.if_icmp .ne 7, 3) := by decide +kernel
theorem dX5_lets_19 : decode cX5_lets 19 = .ok (.iconst 1, 1) := by decide +kernel
theorem dX5_lets_20 : decode cX5_lets 20 = .ok (.goto 4, 3) := by decide +kernel
theorem dX5_lets_23 : decode cX5_lets 23 = .ok (.iconst 0, 1) := by decide +kernel
theorem dX5_lets_24 : decode cX5_lets 24 = .ok (.invokevirtual 138, 3) := by decide +kernel
theorem dX5_lets_27 : decode cX5_lets 27 = .ok (.aload_n 0, 1) := by decide +kernel
theorem dX5_lets_28 : decode cX5_lets 28 = .ok (.iload_n 1, 1) := by decide +kernel
theorem dX5_lets_29 : decode cX5_lets 29 = .ok (.iload_n 2, 1) := by decide +kernel
theorem dX5_lets_30 : decode cX5_lets 30 = .ok (.iconst (-1), 1) := by decide +kernel
theorem dX5_lets_31 : decode cX5_lets 31 = .ok (.invokevirtual 130, 3) := by decide +kernel
theorem dX5_lets_34 : decode cX5_lets 34 = .ok (.istore 4, 2) := by decide +kernel
theorem dX5_lets_36 : decode cX5_lets 36 = .ok (.aload_n 0, 1) := by decide +kernel
theorem dX5_lets_37 : decode cX5_lets 37 = .ok (.dup, 1) := by decide +kernel
theorem dX5_lets_38 : decode cX5_lets 38 = .ok (.getfield 118, 3) := by decide +kernel
theorem dX5_lets_41 : decode cX5_lets 41 = .ok (.iconst 1, 1) := by decide +kernel
theorem dX5_lets_42 : decode cX5_lets 42 = .ok (.isub, 1) := by decide +kernel
theorem dX5_lets_43 : decode cX5_lets 43 = .ok (.putfield 118, 3) := by decide +kernel
theorem dX5_lets_46 : decode cX5_lets 46 = .ok (.iload 4, 2) := by decide +kernel
theorem dX5_lets_48 : decode cX5_lets 48 = .ok (.ireturn, 1) := by decide +kernel
theorem dX5_can_0 : decode cX5_can 0 = .ok (.aload_n 0, 1) := by decide +kernel
theorem dX5_can_1 : decode cX5_can 1 = .ok (.iload_n 1, 1) := by decide +kernel
theorem dX5_can_2 : decode cX5_can 2 = .ok (.invokevirtual 103, 3) := by decide +kernel
theorem dX5_can_5 : decode cX5_can 5 = .ok (.ifCond .eq 11, 3) := by decide +kernel
theorem dX5_can_8 : decode cX5_can 8 = .ok (.aload_n 0, 1) := by decide +kernel
theorem dX5_can_9 : decode cX5_can 9 = .ok (.iload_n 2, 1) := by decide +kernel
theorem dX5_can_10 : decode cX5_can 10 = .ok (.invokevirtual 121, 3) := by decide +kernel
theorem dX5_can_13 : decode cX5_can 13 = .ok (.ifCond .ne 9, 3) := by decide +kernel
theorem dX5_can_16 : decode cX5_can 16 = .ok (.aload_n 0, 1) := by decide +kernel
theorem dX5_can_17 : decode cX5_can 17 = .ok (.iconst (-1), 1) := by decide +kernel
theorem dX5_can_18 : decode cX5_can 18 = .ok (.invokevirtual 99, 3) := by decide +kernel
theorem dX5_can_21 : decode cX5_can 21 = .ok (.ireturn, 1) := by decide +kernel
theorem dX5_can_22 : decode cX5_can 22 = .ok (.iload_n 3, 1) := by decide +kernel
theorem dX5_can_23 : decode cX5_can 23 = .ok (.ifCond .lt 8, 3) := by decide +kernel
theorem dX5_can_26 : decode cX5_can 26 = .ok (.iload_n 3, 1) := by decide +kernel
theorem dX5_can_27 : decode cX5_can 27 = .ok (.iconst 3, 1) := by decide +kernel
theorem dX5_can_28 : decode cX5_can 28 = .ok (.if_icmp .le 10, 3) := by decide +kernel
theorem dX5_can_31 : decode cX5_can 31 = .ok (.aload_n 0, 1) := by decide +kernel
theorem dX5_can_32 : decode cX5_can 32 = .ok (.bipush (-5), 2) := by decide +kernel
theorem dX5_can_34 : decode cX5_can 34 = .ok (.invokevirtual 99, 3) := by decide +kernel
theorem dX5_can_37 : decode cX5_can 37 = .ok (.ireturn, 1) := by decide +kernel
theorem dX5_can_38 : decode cX5_can 38 = .ok (.aload_n 0, 1) := by decide +kernel
theorem dX5_can_39 : decode cX5_can 39 = .ok (.iload_n 1, 1) := by decide +kernel
theorem dX5_can_40 : decode cX5_can 40 = .ok (.invokevirtual 150, 3) := by decide +kernel
theorem dX5_can_43 : decode cX5_can 43 = .ok (.ifCond .eq 5, 3) := by decide +kernel
theorem dX5_can_46 : decode cX5_can 46 = .ok (.iconst 0, 1) := by decide +kernel
theorem dX5_can_47 : decode cX5_can 47 = .ok (.ireturn, 1) := by decide +kernel
theorem dX5_can_48 : decode cX5_can 48 = .ok (.iload_n 3, 1) := by decide +kernel
theorem dX5_can_49 : decode cX5_can 49 = .ok (.iconst 1, 1) := by decide +kernel
theorem dX5_can_50 : decode cX5_can 50 = .ok (.if_icmp .le 28, 3) := by decide +kernel
theorem dX5_can_53 : decode cX5_can 53 = .ok (.aload_n 0, 1) := by decide +kernel
theorem dX5_can_54 : decode cX5_can 54 = .ok (.iload_n 1, 1) := by decide +kernel
theorem dX5_can_55 : decode cX5_can 55 = .ok (.iload_n 2, 1) := by decide +kernel
theorem dX5_can_56 : decode cX5_can 56 = .ok (.iload_n 3, 1) := by decide +kernel
theorem dX5_can_57 : decode cX5_can 57 = .ok (.iconst 2, 1) := by decide +kernel
theorem dX5_can_58 : decode cX5_can 58 = .ok (.if_icmp .ne 7, 3) := by decide +kernel
theorem dX5_can_61 : decode cX5_can 61 = .ok (.iconst 1, 1) := by decide +kernel
theorem dX5_can_62 : decode cX5_can 62 = .ok (.goto 4, 3) := by decide +kernel
theorem dX5_can_65 : decode cX5_can 65 = .ok (.iconst 0, 1) := by decide +kernel
theorem dX5_can_66 : decode cX5_can 66 = .ok (.invokevirtual 153, 3) := by decide +kernel
theorem dX5_can_69 : decode cX5_can 69 = .ok (.ifCond .le 7, 3) := by decide +kernel
theorem dX5_can_72 : decode cX5_can 72 = .ok (.iconst 1, 1) := by decide +kernel
theorem dX5_can_73 : decode cX5_can 73 = .ok (.goto 4, 3) := by decide +kernel
theorem dX5_can_76 : decode cX5_can 76 = .ok (.iconst 0, 1) := by decide +kernel
theorem dX5_can_77 : decode cX5_can 77 = .ok (.ireturn, 1) := by decide +kernel
theorem dX5_can_78 : decode cX5_can 78 = .ok (.aload_n 0, 1) := by decide +kernel
theorem dX5_can_79 : decode cX5_can 79 = .ok (.invokevirtual 142, 3) := by decide +kernel
theorem dX5_can_82 : decode cX5_can 82 = .ok (.lstore 4, 2) := by decide +kernel
theorem dX5_can_84 : decode cX5_can 84 = .ok (.iconst 0, 1) := by decide +kernel
theorem dX5_can_85 : decode cX5_can 85 = .ok (.istore 6, 2) := by decide +kernel
theorem dX5_can_87 : decode cX5_can 87 = .ok (.iload 6, 2) := by decide +kernel
theorem dX5_can_89 : decode cX5_can 89 = .ok (.iconst 1, 1) := by decide +kernel
theorem dX5_can_90 : decode cX5_can 90 = .ok (.aload_n 0, 1) := by decide +kernel
theorem dX5_can_91 : decode cX5_can 91 = .ok (.getfield 89, 3) := by decide +kernel
theorem dX5_can_94 : decode cX5_can 94 = .ok (.ishl, 1) := by decide +kernel
theorem dX5_can_95 : decode cX5_can 95 = .ok (.if_icmp .ge 43, 3) := by decide +kernel
theorem dX5_can_98 : decode cX5_can 98 = .ok (.lload 4, 2) := by decide +kernel
theorem dX5_can_100 : decode cX5_can 100 = .ok (.iload 6, 2) := by decide +kernel
theorem dX5_can_102 : decode cX5_can 102 = .ok (.lshr, 1) := by decide +kernel
theorem dX5_can_103 : decode cX5_can 103 = .ok (.lconst 1, 1) := by decide +kernel
theorem dX5_can_104 : decode cX5_can 104 = .ok (.land, 1) := by decide +kernel
theorem dX5_can_105 : decode cX5_can 105 = .ok (.lconst 1, 1) := by decide +kernel
theorem dX5_can_106 : decode cX5_can 106 = .ok (.lcmp, 1) := by decide +kernel
theorem dX5_can_107 : decode cX5_can 107 = .ok (.ifCond .ne 25, 3) := by decide +kernel
theorem dX5_can_110 : decode cX5_can 110 = .ok (.aload_n 0, 1) := by decide +kernel
theorem dX5_can_111 : decode cX5_can 111 = .ok (.iload_n 1, 1) := by decide +kernel
theorem dX5_can_112 : decode cX5_can 112 = .ok (.iload 6, 2) := by decide +kernel
theorem dX5_can_114 : decode cX5_can 114 = .ok (.iload_n 3, 1) := by decide +kernel
theorem dX5_can_115 : decode cX5_can 115 = .ok (.iconst 1, 1) := by decide +kernel
theorem dX5_can_116 : decode cX5_can 116 = .ok (.if_icmp .ne 7, 3) := by decide +kernel
theorem dX5_can_119 : decode cX5_can 119 = .ok (.iconst 1, 1) := by decide +kernel
theorem dX5_can_120 : decode cX5_can 120 = .ok (.goto 4, 3) := by decide +kernel
theorem dX5_can_123 : decode cX5_can 123 = .ok (.iconst 0, 1) := by decide +kernel
theorem dX5_can_124 : decode cX5_can 124 = .ok (.invokevirtual 218, 3) := by decide +kernel
theorem dX5_can_127 : decode cX5_can 127 = .ok (.ifCond .eq 5, 3) := by decide +kernel
theorem dX5_can_130 : decode cX5_can 130 = .ok (.iconst 1, 1) := by decide +kernel
theorem dX5_can_131 : decode cX5_can 131 = .ok (.ireturn, 1) := by decide +kernel
theorem dX5_can_132 : decode cX5_can 132 = .ok (.iinc 6 1, 3) := by decide +kernel
theorem dX5_can_135 : decode cX5_can 135 = .ok (.goto (-48), 3) := by decide +kernel
theorem dX5_can_138 : decode cX5_can 138 = .ok (.iconst 0, 1) := by decide +kernel
theorem dX5_can_139 : decode cX5_can 139 = .ok (.ireturn, 1) := by decide +kernel
theorem dX5_worlds_0 : decode cX5_worlds 0 = .ok (.aload_n 0, 1) := by decide +kernel
theorem dX5_worlds_1 : decode cX5_worlds 1 = .ok (.invokevirtual 142, 3) := by decide +kernel
theorem dX5_worlds_4 : decode cX5_worlds 4 = .ok (.lreturn, 1) := by decide +kernel
theorem dX5_many_0 : decode cX5_many 0 = .ok (.aload_n 0, 1) := by decide +kernel
theorem dX5_many_1 : decode cX5_many 1 = .ok (.aload_n 0, 1) := by decide +kernel
theorem dX5_many_2 : decode cX5_many 2 = .ok (.invokevirtual 142, 3) := by decide +kernel
theorem dX5_many_5 : decode cX5_many 5 = .ok (.invokevirtual 146, 3) := by decide +kernel
theorem dX5_many_8 : decode cX5_many 8 = .ok (.ireturn, 1) := by decide +kernel
theorem dX5_sureBy_0 : decode cX5_sureBy 0 = .ok (.lload_n 2, 1) := by decide +kernel
theorem dX5_sureBy_1 : decode cX5_sureBy 1 = .ok (.aload_n 0, 1) := by decide +kernel
theorem dX5_sureBy_2 : decode cX5_sureBy 2 = .ok (.iload_n 1, 1) := by decide +kernel
theorem dX5_sureBy_3 : decode cX5_sureBy 3 = .ok (.iconst 1, 1) := by decide +kernel
theorem dX5_sureBy_4 : decode cX5_sureBy 4 = .ok (.invokevirtual 157, 3) := by decide +kernel
theorem dX5_sureBy_7 : decode cX5_sureBy 7 = .ok (.land, 1) := by decide +kernel
theorem dX5_sureBy_8 : decode cX5_sureBy 8 = .ok (.lstore 4, 2) := by decide +kernel
theorem dX5_sureBy_10 : decode cX5_sureBy 10 = .ok (.lload_n 2, 1) := by decide +kernel
theorem dX5_sureBy_11 : decode cX5_sureBy 11 = .ok (.lconst 0, 1) := by decide +kernel
theorem dX5_sureBy_12 : decode cX5_sureBy 12 = .ok (.lcmp, 1) := by decide +kernel
theorem dX5_sureBy_13 : decode cX5_sureBy 13 = .ok (.ifCond .ne 7, 3) := by decide +kernel
theorem dX5_sureBy_16 : decode cX5_sureBy 16 = .ok (.iconst (-1), 1) := by decide +kernel
theorem dX5_sureBy_17 : decode cX5_sureBy 17 = .ok (.goto 26, 3) := by decide +kernel
theorem dX5_sureBy_20 : decode cX5_sureBy 20 = .ok (.lload 4, 2) := by decide +kernel
theorem dX5_sureBy_22 : decode cX5_sureBy 22 = .ok (.lload_n 2, 1) := by decide +kernel
theorem dX5_sureBy_23 : decode cX5_sureBy 23 = .ok (.lcmp, 1) := by decide +kernel
theorem dX5_sureBy_24 : decode cX5_sureBy 24 = .ok (.ifCond .ne 7, 3) := by decide +kernel
theorem dX5_sureBy_27 : decode cX5_sureBy 27 = .ok (.iconst 1, 1) := by decide +kernel
theorem dX5_sureBy_28 : decode cX5_sureBy 28 = .ok (.goto 15, 3) := by decide +kernel
theorem dX5_sureBy_31 : decode cX5_sureBy 31 = .ok (.lload 4, 2) := by decide +kernel
theorem dX5_sureBy_33 : decode cX5_sureBy 33 = .ok (.lconst 0, 1) := by decide +kernel
theorem dX5_sureBy_34 : decode cX5_sureBy 34 = .ok (.lcmp, 1) := by decide +kernel
theorem dX5_sureBy_35 : decode cX5_sureBy 35 = .ok (.ifCond .ne 7, 3) := by decide +kernel
theorem dX5_sureBy_38 : decode cX5_sureBy 38 = .ok (.iconst 0, 1) := by decide +kernel
theorem dX5_sureBy_39 : decode cX5_sureBy 39 = .ok (.goto 4, 3) := by decide +kernel
theorem dX5_sureBy_42 : decode cX5_sureBy 42 = .ok (.iconst (-1), 1) := by decide +kernel
theorem dX5_sureBy_43 : decode cX5_sureBy 43 = .ok (.ireturn, 1) := by decide +kernel
theorem dX5_sure_0 : decode cX5_sure 0 = .ok (.aload_n 0, 1) := by decide +kernel
theorem dX5_sure_1 : decode cX5_sure 1 = .ok (.iload_n 1, 1) := by decide +kernel
theorem dX5_sure_2 : decode cX5_sure 2 = .ok (.invokevirtual 121, 3) := by decide +kernel
theorem dX5_sure_5 : decode cX5_sure 5 = .ok (.ifCond .eq 15, 3) := by decide +kernel
theorem dX5_sure_8 : decode cX5_sure 8 = .ok (.aload_n 0, 1) := by decide +kernel
theorem dX5_sure_9 : decode cX5_sure 9 = .ok (.iload_n 1, 1) := by decide +kernel
theorem dX5_sure_10 : decode cX5_sure 10 = .ok (.aload_n 0, 1) := by decide +kernel
theorem dX5_sure_11 : decode cX5_sure 11 = .ok (.invokevirtual 142, 3) := by decide +kernel
theorem dX5_sure_14 : decode cX5_sure 14 = .ok (.invokevirtual 222, 3) := by decide +kernel
theorem dX5_sure_17 : decode cX5_sure 17 = .ok (.goto 8, 3) := by decide +kernel
theorem dX5_sure_20 : decode cX5_sure 20 = .ok (.aload_n 0, 1) := by decide +kernel
theorem dX5_sure_21 : decode cX5_sure 21 = .ok (.iconst (-1), 1) := by decide +kernel
theorem dX5_sure_22 : decode cX5_sure 22 = .ok (.invokevirtual 226, 3) := by decide +kernel
theorem dX5_sure_25 : decode cX5_sure 25 = .ok (.ireturn, 1) := by decide +kernel
theorem dX5_sures_0 : decode cX5_sures 0 = .ok (.aload_n 0, 1) := by decide +kernel
theorem dX5_sures_1 : decode cX5_sures 1 = .ok (.invokevirtual 142, 3) := by decide +kernel
theorem dX5_sures_4 : decode cX5_sures 4 = .ok (.lstore_n 1, 1) := by decide +kernel
theorem dX5_sures_5 : decode cX5_sures 5 = .ok (.iconst 0, 1) := by decide +kernel
theorem dX5_sures_6 : decode cX5_sures 6 = .ok (.istore_n 3, 1) := by decide +kernel
theorem dX5_sures_7 : decode cX5_sures 7 = .ok (.iconst 0, 1) := by decide +kernel
theorem dX5_sures_8 : decode cX5_sures 8 = .ok (.istore 4, 2) := by decide +kernel
theorem dX5_sures_10 : decode cX5_sures 10 = .ok (.iload 4, 2) := by decide +kernel
theorem dX5_sures_12 : decode cX5_sures 12 = .ok (.aload_n 0, 1) := by decide +kernel
theorem dX5_sures_13 : decode cX5_sures 13 = .ok (.getfield 89, 3) := by decide +kernel
theorem dX5_sures_16 : decode cX5_sures 16 = .ok (.if_icmp .ge 27, 3) := by decide +kernel
theorem dX5_sures_19 : decode cX5_sures 19 = .ok (.aload_n 0, 1) := by decide +kernel
theorem dX5_sures_20 : decode cX5_sures 20 = .ok (.iload 4, 2) := by decide +kernel
theorem dX5_sures_22 : decode cX5_sures 22 = .ok (.lload_n 1, 1) := by decide +kernel
theorem dX5_sures_23 : decode cX5_sures 23 = .ok (.invokevirtual 222, 3) := by decide +kernel
theorem dX5_sures_26 : decode cX5_sures 26 = .ok (.iconst (-1), 1) := by decide +kernel
theorem dX5_sures_27 : decode cX5_sures 27 = .ok (.if_icmp .eq 10, 3) := by decide +kernel
theorem dX5_sures_30 : decode cX5_sures 30 = .ok (.iload_n 3, 1) := by decide +kernel
theorem dX5_sures_31 : decode cX5_sures 31 = .ok (.iconst 1, 1) := by decide +kernel
theorem dX5_sures_32 : decode cX5_sures 32 = .ok (.iload 4, 2) := by decide +kernel
theorem dX5_sures_34 : decode cX5_sures 34 = .ok (.ishl, 1) := by decide +kernel
theorem dX5_sures_35 : decode cX5_sures 35 = .ok (.ior, 1) := by decide +kernel
theorem dX5_sures_36 : decode cX5_sures 36 = .ok (.istore_n 3, 1) := by decide +kernel
theorem dX5_sures_37 : decode cX5_sures 37 = .ok (.iinc 4 1, 3) := by decide +kernel
theorem dX5_sures_40 : decode cX5_sures 40 = .ok (.goto (-30), 3) := by decide +kernel
theorem dX5_sures_43 : decode cX5_sures 43 = .ok (.iload_n 3, 1) := by decide +kernel
theorem dX5_sures_44 : decode cX5_sures 44 = .ok (.ireturn, 1) := by decide +kernel
theorem dX5_shown_0 : decode cX5_shown 0 = .ok (.aload_n 0, 1) := by decide +kernel
theorem dX5_shown_1 : decode cX5_shown 1 = .ok (.iload_n 1, 1) := by decide +kernel
theorem dX5_shown_2 : decode cX5_shown 2 = .ok (.invokevirtual 121, 3) := by decide +kernel
theorem dX5_shown_5 : decode cX5_shown 5 = .ok (.ifCond .ne 9, 3) := by decide +kernel
theorem dX5_shown_8 : decode cX5_shown 8 = .ok (.aload_n 0, 1) := by decide +kernel
theorem dX5_shown_9 : decode cX5_shown 9 = .ok (.iconst (-1), 1) := by decide +kernel
theorem dX5_shown_10 : decode cX5_shown 10 = .ok (.invokevirtual 99, 3) := by decide +kernel
theorem dX5_shown_13 : decode cX5_shown 13 = .ok (.ireturn, 1) := by decide +kernel
theorem dX5_shown_14 : decode cX5_shown 14 = .ok (.aload_n 0, 1) := by decide +kernel
theorem dX5_shown_15 : decode cX5_shown 15 = .ok (.iload_n 1, 1) := by decide +kernel
theorem dX5_shown_16 : decode cX5_shown 16 = .ok (.aload_n 0, 1) := by decide +kernel
theorem dX5_shown_17 : decode cX5_shown 17 = .ok (.invokevirtual 142, 3) := by decide +kernel
theorem dX5_shown_20 : decode cX5_shown 20 = .ok (.invokevirtual 222, 3) := by decide +kernel
theorem dX5_shown_23 : decode cX5_shown 23 = .ok (.iconst (-1), 1) := by decide +kernel
theorem dX5_shown_24 : decode cX5_shown 24 = .ok (.if_icmp .ne 10, 3) := by decide +kernel
theorem dX5_shown_27 : decode cX5_shown 27 = .ok (.aload_n 0, 1) := by decide +kernel
theorem dX5_shown_28 : decode cX5_shown 28 = .ok (.bipush (-5), 2) := by decide +kernel
theorem dX5_shown_30 : decode cX5_shown 30 = .ok (.invokevirtual 99, 3) := by decide +kernel
theorem dX5_shown_33 : decode cX5_shown 33 = .ok (.ireturn, 1) := by decide +kernel
theorem dX5_shown_34 : decode cX5_shown 34 = .ok (.iconst 0, 1) := by decide +kernel
theorem dX5_shown_35 : decode cX5_shown 35 = .ok (.istore_n 2, 1) := by decide +kernel
theorem dX5_shown_36 : decode cX5_shown 36 = .ok (.aload_n 0, 1) := by decide +kernel
theorem dX5_shown_37 : decode cX5_shown 37 = .ok (.iload_n 1, 1) := by decide +kernel
theorem dX5_shown_38 : decode cX5_shown 38 = .ok (.aload_n 0, 1) := by decide +kernel
theorem dX5_shown_39 : decode cX5_shown 39 = .ok (.iconst 1, 1) := by decide +kernel
theorem dX5_shown_40 : decode cX5_shown 40 = .ok (.iload_n 2, 1) := by decide +kernel
theorem dX5_shown_41 : decode cX5_shown 41 = .ok (.ishl, 1) := by decide +kernel
theorem dX5_shown_42 : decode cX5_shown 42 = .ok (.iconst 1, 1) := by decide +kernel
theorem dX5_shown_43 : decode cX5_shown 43 = .ok (.isub, 1) := by decide +kernel
theorem dX5_shown_44 : decode cX5_shown 44 = .ok (.iconst (-1), 1) := by decide +kernel
theorem dX5_shown_45 : decode cX5_shown 45 = .ok (.invokevirtual 134, 3) := by decide +kernel
theorem dX5_shown_48 : decode cX5_shown 48 = .ok (.invokevirtual 222, 3) := by decide +kernel
theorem dX5_shown_51 : decode cX5_shown 51 = .ok (.iconst (-1), 1) := by decide +kernel
theorem dX5_shown_52 : decode cX5_shown 52 = .ok (.if_icmp .ne 9, 3) := by decide +kernel
theorem dX5_shown_55 : decode cX5_shown 55 = .ok (.iinc 2 1, 3) := by decide +kernel
theorem dX5_shown_58 : decode cX5_shown 58 = .ok (.goto (-22), 3) := by decide +kernel
theorem dX5_shown_61 : decode cX5_shown 61 = .ok (.iload_n 2, 1) := by decide +kernel
theorem dX5_shown_62 : decode cX5_shown 62 = .ok (.ireturn, 1) := by decide +kernel
theorem dX5_proof_0 : decode cX5_proof 0 = .ok (.aload_n 0, 1) := by decide +kernel
theorem dX5_proof_1 : decode cX5_proof 1 = .ok (.iload_n 1, 1) := by decide +kernel
theorem dX5_proof_2 : decode cX5_proof 2 = .ok (.invokevirtual 121, 3) := by decide +kernel
theorem dX5_proof_5 : decode cX5_proof 5 = .ok (.ifCond .ne 9, 3) := by decide +kernel
theorem dX5_proof_8 : decode cX5_proof 8 = .ok (.aload_n 0, 1) := by decide +kernel
theorem dX5_proof_9 : decode cX5_proof 9 = .ok (.iconst (-1), 1) := by decide +kernel
theorem dX5_proof_10 : decode cX5_proof 10 = .ok (.invokevirtual 99, 3) := by decide +kernel
theorem dX5_proof_13 : decode cX5_proof 13 = .ok (.ireturn, 1) := by decide +kernel
theorem dX5_proof_14 : decode cX5_proof 14 = .ok (.aload_n 0, 1) := by decide +kernel
theorem dX5_proof_15 : decode cX5_proof 15 = .ok (.iload_n 1, 1) := by decide +kernel
theorem dX5_proof_16 : decode cX5_proof 16 = .ok (.aload_n 0, 1) := by decide +kernel
theorem dX5_proof_17 : decode cX5_proof 17 = .ok (.invokevirtual 142, 3) := by decide +kernel
theorem dX5_proof_20 : decode cX5_proof 20 = .ok (.invokevirtual 222, 3) := by decide +kernel
theorem dX5_proof_23 : decode cX5_proof 23 = .ok (.istore_n 2, 1) := by decide +kernel
theorem dX5_proof_24 : decode cX5_proof 24 = .ok (.iload_n 2, 1) := by decide +kernel
theorem dX5_proof_25 : decode cX5_proof 25 = .ok (.iconst (-1), 1) := by decide +kernel
theorem dX5_proof_26 : decode cX5_proof 26 = .ok (.if_icmp .ne 10, 3) := by decide +kernel
theorem dX5_proof_29 : decode cX5_proof 29 = .ok (.aload_n 0, 1) := by decide +kernel
theorem dX5_proof_30 : decode cX5_proof 30 = .ok (.bipush (-5), 2) := by decide +kernel
theorem dX5_proof_32 : decode cX5_proof 32 = .ok (.invokevirtual 99, 3) := by decide +kernel
theorem dX5_proof_35 : decode cX5_proof 35 = .ok (.ireturn, 1) := by decide +kernel
theorem dX5_proof_36 : decode cX5_proof 36 = .ok (.aload_n 0, 1) := by decide +kernel
theorem dX5_proof_37 : decode cX5_proof 37 = .ok (.getfield 118, 3) := by decide +kernel
theorem dX5_proof_40 : decode cX5_proof 40 = .ok (.bipush 10, 2) := by decide +kernel
theorem dX5_proof_42 : decode cX5_proof 42 = .ok (.if_icmp .le 10, 3) := by decide +kernel
theorem dX5_proof_45 : decode cX5_proof 45 = .ok (.aload_n 0, 1) := by decide +kernel
theorem dX5_proof_46 : decode cX5_proof 46 = .ok (.bipush (-7), 2) := by decide +kernel
theorem dX5_proof_48 : decode cX5_proof 48 = .ok (.invokevirtual 99, 3) := by decide +kernel
theorem dX5_proof_51 : decode cX5_proof 51 = .ok (.ireturn, 1) := by decide +kernel
theorem dX5_proof_52 : decode cX5_proof 52 = .ok (.aload_n 0, 1) := by decide +kernel
theorem dX5_proof_53 : decode cX5_proof 53 = .ok (.getfield 118, 3) := by decide +kernel
theorem dX5_proof_56 : decode cX5_proof 56 = .ok (.istore_n 3, 1) := by decide +kernel
theorem dX5_proof_57 : decode cX5_proof 57 = .ok (.iconst 0, 1) := by decide +kernel
theorem dX5_proof_58 : decode cX5_proof 58 = .ok (.istore 4, 2) := by decide +kernel
theorem dX5_proof_60 : decode cX5_proof 60 = .ok (.iload 4, 2) := by decide +kernel
theorem dX5_proof_62 : decode cX5_proof 62 = .ok (.iconst 1, 1) := by decide +kernel
theorem dX5_proof_63 : decode cX5_proof 63 = .ok (.aload_n 0, 1) := by decide +kernel
theorem dX5_proof_64 : decode cX5_proof 64 = .ok (.getfield 118, 3) := by decide +kernel
theorem dX5_proof_67 : decode cX5_proof 67 = .ok (.ishl, 1) := by decide +kernel
theorem dX5_proof_68 : decode cX5_proof 68 = .ok (.if_icmp .ge 43, 3) := by decide +kernel
theorem dX5_proof_71 : decode cX5_proof 71 = .ok (.aload_n 0, 1) := by decide +kernel
theorem dX5_proof_72 : decode cX5_proof 72 = .ok (.iload 4, 2) := by decide +kernel
theorem dX5_proof_74 : decode cX5_proof 74 = .ok (.i2l, 1) := by decide +kernel
theorem dX5_proof_75 : decode cX5_proof 75 = .ok (.invokevirtual 146, 3) := by decide +kernel
theorem dX5_proof_78 : decode cX5_proof 78 = .ok (.istore 5, 2) := by decide +kernel
theorem dX5_proof_80 : decode cX5_proof 80 = .ok (.iload 5, 2) := by decide +kernel
theorem dX5_proof_82 : decode cX5_proof 82 = .ok (.iload_n 3, 1) := by decide +kernel
theorem dX5_proof_83 : decode cX5_proof 83 = .ok (.if_icmp .ge 22, 3) := by decide +kernel
theorem dX5_proof_86 : decode cX5_proof 86 = .ok (.aload_n 0, 1) := by decide +kernel
theorem dX5_proof_87 : decode cX5_proof 87 = .ok (.iload_n 1, 1) := by decide +kernel
theorem dX5_proof_88 : decode cX5_proof 88 = .ok (.aload_n 0, 1) := by decide +kernel
theorem dX5_proof_89 : decode cX5_proof 89 = .ok (.iload 4, 2) := by decide +kernel
theorem dX5_proof_91 : decode cX5_proof 91 = .ok (.iconst (-1), 1) := by decide +kernel
theorem dX5_proof_92 : decode cX5_proof 92 = .ok (.invokevirtual 134, 3) := by decide +kernel
theorem dX5_proof_95 : decode cX5_proof 95 = .ok (.invokevirtual 222, 3) := by decide +kernel
theorem dX5_proof_98 : decode cX5_proof 98 = .ok (.iload_n 2, 1) := by decide +kernel
theorem dX5_proof_99 : decode cX5_proof 99 = .ok (.if_icmp .ne 6, 3) := by decide +kernel
theorem dX5_proof_102 : decode cX5_proof 102 = .ok (.iload 5, 2) := by decide +kernel
theorem dX5_proof_104 : decode cX5_proof 104 = .ok (.istore_n 3, 1) := by decide +kernel
theorem dX5_proof_105 : decode cX5_proof 105 = .ok (.iinc 4 1, 3) := by decide +kernel
theorem dX5_proof_108 : decode cX5_proof 108 = .ok (.goto (-48), 3) := by decide +kernel
theorem dX5_proof_111 : decode cX5_proof 111 = .ok (.iload_n 3, 1) := by decide +kernel
theorem dX5_proof_112 : decode cX5_proof 112 = .ok (.ireturn, 1) := by decide +kernel
theorem dX5_worstOf_0 : decode cX5_worstOf 0 = .ok (.aload_n 0, 1) := by decide +kernel
theorem dX5_worstOf_1 : decode cX5_worstOf 1 = .ok (.iload_n 1, 1) := by decide +kernel
theorem dX5_worstOf_2 : decode cX5_worstOf 2 = .ok (.iload_n 2, 1) := by decide +kernel
theorem dX5_worstOf_3 : decode cX5_worstOf 3 = .ok (.iconst 1, 1) := by decide +kernel
theorem dX5_worstOf_4 : decode cX5_worstOf 4 = .ok (.invokevirtual 153, 3) := by decide +kernel
theorem dX5_worstOf_7 : decode cX5_worstOf 7 = .ok (.istore_n 3, 1) := by decide +kernel
theorem dX5_worstOf_8 : decode cX5_worstOf 8 = .ok (.aload_n 0, 1) := by decide +kernel
theorem dX5_worstOf_9 : decode cX5_worstOf 9 = .ok (.iload_n 1, 1) := by decide +kernel
theorem dX5_worstOf_10 : decode cX5_worstOf 10 = .ok (.iload_n 2, 1) := by decide +kernel
theorem dX5_worstOf_11 : decode cX5_worstOf 11 = .ok (.iconst 0, 1) := by decide +kernel
theorem dX5_worstOf_12 : decode cX5_worstOf 12 = .ok (.invokevirtual 153, 3) := by decide +kernel
theorem dX5_worstOf_15 : decode cX5_worstOf 15 = .ok (.istore 4, 2) := by decide +kernel
theorem dX5_worstOf_17 : decode cX5_worstOf 17 = .ok (.iload_n 3, 1) := by decide +kernel
theorem dX5_worstOf_18 : decode cX5_worstOf 18 = .ok (.iload 4, 2) := by decide +kernel
theorem dX5_worstOf_20 : decode cX5_worstOf 20 = .ok (.if_icmp .le 7, 3) := by decide +kernel
theorem dX5_worstOf_23 : decode cX5_worstOf 23 = .ok (.iload_n 3, 1) := by decide +kernel
theorem dX5_worstOf_24 : decode cX5_worstOf 24 = .ok (.goto 5, 3) := by decide +kernel
theorem dX5_worstOf_27 : decode cX5_worstOf 27 = .ok (.iload 4, 2) := by decide +kernel
theorem dX5_worstOf_29 : decode cX5_worstOf 29 = .ok (.ireturn, 1) := by decide +kernel
theorem dX5_worst_0 : decode cX5_worst 0 = .ok (.aload_n 0, 1) := by decide +kernel
theorem dX5_worst_1 : decode cX5_worst 1 = .ok (.iload_n 1, 1) := by decide +kernel
theorem dX5_worst_2 : decode cX5_worst 2 = .ok (.invokevirtual 103, 3) := by decide +kernel
theorem dX5_worst_5 : decode cX5_worst 5 = .ok (.ifCond .eq 11, 3) := by decide +kernel
theorem dX5_worst_8 : decode cX5_worst 8 = .ok (.aload_n 0, 1) := by decide +kernel
theorem dX5_worst_9 : decode cX5_worst 9 = .ok (.iload_n 2, 1) := by decide +kernel
theorem dX5_worst_10 : decode cX5_worst 10 = .ok (.invokevirtual 121, 3) := by decide +kernel
theorem dX5_worst_13 : decode cX5_worst 13 = .ok (.ifCond .ne 9, 3) := by decide +kernel
theorem dX5_worst_16 : decode cX5_worst 16 = .ok (.aload_n 0, 1) := by decide +kernel
theorem dX5_worst_17 : decode cX5_worst 17 = .ok (.iconst (-1), 1) := by decide +kernel
theorem dX5_worst_18 : decode cX5_worst 18 = .ok (.invokevirtual 99, 3) := by decide +kernel
theorem dX5_worst_21 : decode cX5_worst 21 = .ok (.ireturn, 1) := by decide +kernel
theorem dX5_worst_22 : decode cX5_worst 22 = .ok (.aload_n 0, 1) := by decide +kernel
theorem dX5_worst_23 : decode cX5_worst 23 = .ok (.iload_n 1, 1) := by decide +kernel
theorem dX5_worst_24 : decode cX5_worst 24 = .ok (.invokevirtual 150, 3) := by decide +kernel
theorem dX5_worst_27 : decode cX5_worst 27 = .ok (.ifCond .eq 12, 3) := by decide +kernel
theorem dX5_worst_30 : decode cX5_worst 30 = .ok (.aload_n 0, 1) := by decide +kernel
theorem dX5_worst_31 : decode cX5_worst 31 = .ok (.bipush (-6), 2) := by decide +kernel
theorem dX5_worst_33 : decode cX5_worst 33 = .ok (.invokevirtual 99, 3) := by decide +kernel
theorem dX5_worst_36 : decode cX5_worst 36 = .ok (.goto 9, 3) := by decide +kernel
theorem dX5_worst_39 : decode cX5_worst 39 = .ok (.aload_n 0, 1) := by decide +kernel
theorem dX5_worst_40 : decode cX5_worst 40 = .ok (.iload_n 1, 1) := by decide +kernel
theorem dX5_worst_41 : decode cX5_worst 41 = .ok (.iload_n 2, 1) := by decide +kernel
theorem dX5_worst_42 : decode cX5_worst 42 = .ok (.invokevirtual 229, 3) := by decide +kernel
theorem dX5_worst_45 : decode cX5_worst 45 = .ok (.ireturn, 1) := by decide +kernel
theorem dX5_next_0 : decode cX5_next 0 = .ok (.iconst (-1), 1) := by decide +kernel
theorem dX5_next_1 : decode cX5_next 1 = .ok (.istore_n 1, 1) := by decide +kernel
theorem dX5_next_2 : decode cX5_next 2 = .ok (.iconst 0, 1) := by decide +kernel
theorem dX5_next_3 : decode cX5_next 3 = .ok (.istore_n 2, 1) := by decide +kernel
theorem dX5_next_4 : decode cX5_next 4 = .ok (.iconst 0, 1) := by decide +kernel
theorem dX5_next_5 : decode cX5_next 5 = .ok (.istore_n 3, 1) := by decide +kernel
theorem dX5_next_6 : decode cX5_next 6 = .ok (.iload_n 3, 1) := by decide +kernel
theorem dX5_next_7 : decode cX5_next 7 = .ok (.aload_n 0, 1) := by decide +kernel
theorem dX5_next_8 : decode cX5_next 8 = .ok (.getfield 92, 3) := by decide +kernel
theorem dX5_next_11 : decode cX5_next 11 = .ok (.if_icmp .ge 69, 3) := by decide +kernel
theorem dX5_next_14 : decode cX5_next 14 = .ok (.iconst 0, 1) := by decide +kernel
theorem dX5_next_15 : decode cX5_next 15 = .ok (.istore 4, 2) := by decide +kernel
theorem dX5_next_17 : decode cX5_next 17 = .ok (.iload 4, 2) := by decide +kernel
theorem dX5_next_19 : decode cX5_next 19 = .ok (.aload_n 0, 1) := by decide +kernel
theorem dX5_next_20 : decode cX5_next 20 = .ok (.getfield 89, 3) := by decide +kernel
theorem dX5_next_23 : decode cX5_next 23 = .ok (.if_icmp .ge 51, 3) := by decide +kernel
theorem dX5_next_26 : decode cX5_next 26 = .ok (.aload_n 0, 1) := by decide +kernel
theorem dX5_next_27 : decode cX5_next 27 = .ok (.iload_n 3, 1) := by decide +kernel
theorem dX5_next_28 : decode cX5_next 28 = .ok (.invokevirtual 150, 3) := by decide +kernel
theorem dX5_next_31 : decode cX5_next 31 = .ok (.ifCond .ne 43, 3) := by decide +kernel
theorem dX5_next_34 : decode cX5_next 34 = .ok (.aload_n 0, 1) := by decide +kernel
theorem dX5_next_35 : decode cX5_next 35 = .ok (.iload_n 3, 1) := by decide +kernel
theorem dX5_next_36 : decode cX5_next 36 = .ok (.iload 4, 2) := by decide +kernel
theorem dX5_next_38 : decode cX5_next 38 = .ok (.invokevirtual 229, 3) := by decide +kernel
theorem dX5_next_41 : decode cX5_next 41 = .ok (.istore 5, 2) := by decide +kernel
theorem dX5_next_43 : decode cX5_next 43 = .ok (.iload_n 1, 1) := by decide +kernel
theorem dX5_next_44 : decode cX5_next 44 = .ok (.iconst (-1), 1) := by decide +kernel
theorem dX5_next_45 : decode cX5_next 45 = .ok (.if_icmp .eq 12, 3) := by decide +kernel
theorem dX5_next_48 : decode cX5_next 48 = .ok (.iload 5, 2) := by decide +kernel
theorem dX5_next_50 : decode cX5_next 50 = .ok (.iload_n 2, 1) := by decide +kernel
theorem dX5_next_51 : decode cX5_next 51 = .ok (.if_icmp .lt 6, 3) := by decide +kernel
theorem dX5_next_54 : decode cX5_next 54 = .ok (.goto 14, 3) := by decide +kernel
theorem dX5_next_57 : decode cX5_next 57 = .ok (.bipush 10, 2) := by decide +kernel
theorem dX5_next_59 : decode cX5_next 59 = .ok (.iload_n 3, 1) := by decide +kernel
theorem dX5_next_60 : decode cX5_next 60 = .ok (.imul, 1) := by decide +kernel
theorem dX5_next_61 : decode cX5_next 61 = .ok (.iload 4, 2) := by decide +kernel
theorem dX5_next_63 : decode cX5_next 63 = .ok (.iadd, 1) := by decide +kernel
theorem dX5_next_64 : decode cX5_next 64 = .ok (.istore_n 1, 1) := by decide +kernel
theorem dX5_next_65 : decode cX5_next 65 = .ok (.iload 5, 2) := by decide +kernel
theorem dX5_next_67 : decode cX5_next 67 = .ok (.istore_n 2, 1) := by decide +kernel
theorem dX5_next_68 : decode cX5_next 68 = .ok (.iinc 4 1, 3) := by decide +kernel
theorem dX5_next_71 : decode cX5_next 71 = .ok (.goto (-54), 3) := by decide +kernel
theorem dX5_next_74 : decode cX5_next 74 = .ok (.iinc 3 1, 3) := by decide +kernel
theorem dX5_next_77 : decode cX5_next 77 = .ok (.goto (-71), 3) := by decide +kernel
theorem dX5_next_80 : decode cX5_next 80 = .ok (.iload_n 1, 1) := by decide +kernel
theorem dX5_next_81 : decode cX5_next 81 = .ok (.iconst (-1), 1) := by decide +kernel
theorem dX5_next_82 : decode cX5_next 82 = .ok (.if_icmp .ne 12, 3) := by decide +kernel
theorem dX5_next_85 : decode cX5_next 85 = .ok (.aload_n 0, 1) := by decide +kernel
theorem dX5_next_86 : decode cX5_next 86 = .ok (.bipush (-5), 2) := by decide +kernel
theorem dX5_next_88 : decode cX5_next 88 = .ok (.invokevirtual 99, 3) := by decide +kernel
theorem dX5_next_91 : decode cX5_next 91 = .ok (.goto 4, 3) := by decide +kernel
theorem dX5_next_94 : decode cX5_next 94 = .ok (.iload_n 1, 1) := by decide +kernel
theorem dX5_next_95 : decode cX5_next 95 = .ok (.ireturn, 1) := by decide +kernel
theorem dX5_isKnown_0 : decode cX5_isKnown 0 = .ok (.aload_n 0, 1) := by decide +kernel
theorem dX5_isKnown_1 : decode cX5_isKnown 1 = .ok (.iload_n 1, 1) := by decide +kernel
theorem dX5_isKnown_2 : decode cX5_isKnown 2 = .ok (.aload_n 0, 1) := by decide +kernel
theorem dX5_isKnown_3 : decode cX5_isKnown 3 = .ok (.invokevirtual 142, 3) := by decide +kernel
theorem dX5_isKnown_6 : decode cX5_isKnown 6 = .ok (.invokevirtual 222, 3) := by decide +kernel
theorem dX5_isKnown_9 : decode cX5_isKnown 9 = .ok (.iconst (-1), 1) := by decide +kernel
theorem dX5_isKnown_10 : decode cX5_isKnown 10 = .ok (.if_icmp .eq 5, 3) := by decide +kernel
theorem dX5_isKnown_13 : decode cX5_isKnown 13 = .ok (.iconst 1, 1) := by decide +kernel
theorem dX5_isKnown_14 : decode cX5_isKnown 14 = .ok (.ireturn, 1) := by decide +kernel
theorem dX5_isKnown_15 : decode cX5_isKnown 15 = .ok (.iload_n 2, 1) := by decide +kernel
theorem dX5_isKnown_16 : decode cX5_isKnown 16 = .ok (.ifCond .ne 5, 3) := by decide +kernel
theorem dX5_isKnown_19 : decode cX5_isKnown 19 = .ok (.iconst 0, 1) := by decide +kernel
theorem dX5_isKnown_20 : decode cX5_isKnown 20 = .ok (.ireturn, 1) := by decide +kernel
theorem dX5_isKnown_21 : decode cX5_isKnown 21 = .ok (.iconst 0, 1) := by decide +kernel
theorem dX5_isKnown_22 : decode cX5_isKnown 22 = .ok (.istore_n 3, 1) := by decide +kernel
theorem dX5_isKnown_23 : decode cX5_isKnown 23 = .ok (.iload_n 3, 1) := by decide +kernel
theorem dX5_isKnown_24 : decode cX5_isKnown 24 = .ok (.aload_n 0, 1) := by decide +kernel
theorem dX5_isKnown_25 : decode cX5_isKnown 25 = .ok (.getfield 92, 3) := by decide +kernel
theorem dX5_isKnown_28 : decode cX5_isKnown 28 = .ok (.if_icmp .ge 112, 3) := by decide +kernel
theorem dX5_isKnown_31 : decode cX5_isKnown 31 = .ok (.aload_n 0, 1) := by decide +kernel
theorem dX5_isKnown_32 : decode cX5_isKnown 32 = .ok (.iload_n 3, 1) := by decide +kernel
theorem dX5_isKnown_33 : decode cX5_isKnown 33 = .ok (.invokevirtual 150, 3) := by decide +kernel
theorem dX5_isKnown_36 : decode cX5_isKnown 36 = .ok (.ifCond .eq 6, 3) := by decide +kernel
theorem dX5_isKnown_39 : decode cX5_isKnown 39 = .ok (.goto 95, 3) := by decide +kernel
theorem dX5_isKnown_42 : decode cX5_isKnown 42 = .ok (.iconst 0, 1) := by decide +kernel
theorem dX5_isKnown_43 : decode cX5_isKnown 43 = .ok (.istore 4, 2) := by decide +kernel
theorem dX5_isKnown_45 : decode cX5_isKnown 45 = .ok (.iload 4, 2) := by decide +kernel
theorem dX5_isKnown_47 : decode cX5_isKnown 47 = .ok (.aload_n 0, 1) := by decide +kernel
theorem dX5_isKnown_48 : decode cX5_isKnown 48 = .ok (.getfield 89, 3) := by decide +kernel
theorem dX5_isKnown_51 : decode cX5_isKnown 51 = .ok (.if_icmp .ge 83, 3) := by decide +kernel
theorem dX5_isKnown_54 : decode cX5_isKnown 54 = .ok (.iconst 1, 1) := by decide +kernel
theorem dX5_isKnown_55 : decode cX5_isKnown 55 = .ok (.istore 5, 2) := by decide +kernel
theorem dX5_isKnown_57 : decode cX5_isKnown 57 = .ok (.iconst 0, 1) := by decide +kernel
theorem dX5_isKnown_58 : decode cX5_isKnown 58 = .ok (.istore 6, 2) := by decide +kernel
theorem dX5_isKnown_60 : decode cX5_isKnown 60 = .ok (.iload 6, 2) := by decide +kernel
theorem dX5_isKnown_62 : decode cX5_isKnown 62 = .ok (.iconst 2, 1) := by decide +kernel
theorem dX5_isKnown_63 : decode cX5_isKnown 63 = .ok (.if_icmp .ge 58, 3) := by decide +kernel
theorem dX5_isKnown_66 : decode cX5_isKnown 66 = .ok (.iload 5, 2) := by decide +kernel
theorem dX5_isKnown_68 : decode cX5_isKnown 68 = .ok (.ifCond .eq 53, 3) := by decide +kernel
theorem dX5_isKnown_71 : decode cX5_isKnown 71 = .ok (.aload_n 0, 1) := by decide +kernel
theorem dX5_isKnown_72 : decode cX5_isKnown 72 = .ok (.iload_n 3, 1) := by decide +kernel
theorem dX5_isKnown_73 : decode cX5_isKnown 73 = .ok (.iload 4, 2) := by decide +kernel
theorem dX5_isKnown_75 : decode cX5_isKnown 75 = .ok (.iload 6, 2) := by decide +kernel
theorem dX5_isKnown_77 : decode cX5_isKnown 77 = .ok (.invokevirtual 153, 3) := by decide +kernel
theorem dX5_isKnown_80 : decode cX5_isKnown 80 = .ok (.ifCond .ne 6, 3) := by decide +kernel
theorem dX5_isKnown_83 : decode cX5_isKnown 83 = .ok (.goto 32, 3) := by decide +kernel
theorem dX5_isKnown_86 : decode cX5_isKnown 86 = .ok (.aload_n 0, 1) := by decide +kernel
theorem dX5_isKnown_87 : decode cX5_isKnown 87 = .ok (.iload_n 3, 1) := by decide +kernel
theorem dX5_isKnown_88 : decode cX5_isKnown 88 = .ok (.iload 4, 2) := by decide +kernel
theorem dX5_isKnown_90 : decode cX5_isKnown 90 = .ok (.iload 6, 2) := by decide +kernel
theorem dX5_isKnown_92 : decode cX5_isKnown 92 = .ok (.invokevirtual 138, 3) := by decide +kernel
theorem dX5_isKnown_95 : decode cX5_isKnown 95 = .ok (.aload_n 0, 1) := by decide +kernel
theorem dX5_isKnown_96 : decode cX5_isKnown 96 = .ok (.iload_n 1, 1) := by decide +kernel
theorem dX5_isKnown_97 : decode cX5_isKnown 97 = .ok (.iload_n 2, 1) := by decide +kernel
theorem dX5_isKnown_98 : decode cX5_isKnown 98 = .ok (.iconst 1, 1) := by decide +kernel
theorem dX5_isKnown_99 : decode cX5_isKnown 99 = .ok (.isub, 1) := by decide +kernel
theorem dX5_isKnown_100 : decode cX5_isKnown 100 = .ok (.invokevirtual 232, 3) := by decide +kernel
theorem dX5_isKnown_103 : decode cX5_isKnown 103 = .ok (.istore 5, 2) := by decide +kernel
theorem dX5_isKnown_105 : decode cX5_isKnown 105 = .ok (.aload_n 0, 1) := by decide +kernel
theorem dX5_isKnown_106 : decode cX5_isKnown 106 = .ok (.dup, 1) := by decide +kernel
theorem dX5_isKnown_107 : decode cX5_isKnown 107 = .ok (.getfield 118, 3) := by decide +kernel
theorem dX5_isKnown_110 : decode cX5_isKnown 110 = .ok (.iconst 1, 1) := by decide +kernel
theorem dX5_isKnown_111 : decode cX5_isKnown 111 = .ok (.isub, 1) := by decide +kernel
theorem dX5_isKnown_112 : decode cX5_isKnown 112 = .ok (.putfield 118, 3) := by decide +kernel
theorem dX5_isKnown_115 : decode cX5_isKnown 115 = .ok (.iinc 6 1, 3) := by decide +kernel
theorem dX5_isKnown_118 : decode cX5_isKnown 118 = .ok (.goto (-58), 3) := by decide +kernel
theorem dX5_isKnown_121 : decode cX5_isKnown 121 = .ok (.iload 5, 2) := by decide +kernel
theorem dX5_isKnown_123 : decode cX5_isKnown 123 = .ok (.ifCond .eq 5, 3) := by decide +kernel
theorem dX5_isKnown_126 : decode cX5_isKnown 126 = .ok (.iconst 1, 1) := by decide +kernel
theorem dX5_isKnown_127 : decode cX5_isKnown 127 = .ok (.ireturn, 1) := by decide +kernel
theorem dX5_isKnown_128 : decode cX5_isKnown 128 = .ok (.iinc 4 1, 3) := by decide +kernel
theorem dX5_isKnown_131 : decode cX5_isKnown 131 = .ok (.goto (-86), 3) := by decide +kernel
theorem dX5_isKnown_134 : decode cX5_isKnown 134 = .ok (.iinc 3 1, 3) := by decide +kernel
theorem dX5_isKnown_137 : decode cX5_isKnown 137 = .ok (.goto (-114), 3) := by decide +kernel
theorem dX5_isKnown_140 : decode cX5_isKnown 140 = .ok (.iconst 0, 1) := by decide +kernel
theorem dX5_isKnown_141 : decode cX5_isKnown 141 = .ok (.ireturn, 1) := by decide +kernel
theorem dX5_knows_0 : decode cX5_knows 0 = .ok (.aload_n 0, 1) := by decide +kernel
theorem dX5_knows_1 : decode cX5_knows 1 = .ok (.iload_n 1, 1) := by decide +kernel
theorem dX5_knows_2 : decode cX5_knows 2 = .ok (.invokevirtual 121, 3) := by decide +kernel
theorem dX5_knows_5 : decode cX5_knows 5 = .ok (.ifCond .ne 9, 3) := by decide +kernel
theorem dX5_knows_8 : decode cX5_knows 8 = .ok (.aload_n 0, 1) := by decide +kernel
theorem dX5_knows_9 : decode cX5_knows 9 = .ok (.iconst (-1), 1) := by decide +kernel
theorem dX5_knows_10 : decode cX5_knows 10 = .ok (.invokevirtual 99, 3) := by decide +kernel
theorem dX5_knows_13 : decode cX5_knows 13 = .ok (.ireturn, 1) := by decide +kernel
theorem dX5_knows_14 : decode cX5_knows 14 = .ok (.iload_n 2, 1) := by decide +kernel
theorem dX5_knows_15 : decode cX5_knows 15 = .ok (.ifCond .lt 8, 3) := by decide +kernel
theorem dX5_knows_18 : decode cX5_knows 18 = .ok (.iload_n 2, 1) := by decide +kernel
theorem dX5_knows_19 : decode cX5_knows 19 = .ok (.iconst 2, 1) := by decide +kernel
theorem dX5_knows_20 : decode cX5_knows 20 = .ok (.if_icmp .le 10, 3) := by decide +kernel
theorem dX5_knows_23 : decode cX5_knows 23 = .ok (.aload_n 0, 1) := by decide +kernel
theorem dX5_knows_24 : decode cX5_knows 24 = .ok (.bipush (-6), 2) := by decide +kernel
theorem dX5_knows_26 : decode cX5_knows 26 = .ok (.invokevirtual 99, 3) := by decide +kernel
theorem dX5_knows_29 : decode cX5_knows 29 = .ok (.ireturn, 1) := by decide +kernel
theorem dX5_knows_30 : decode cX5_knows 30 = .ok (.aload_n 0, 1) := by decide +kernel
theorem dX5_knows_31 : decode cX5_knows 31 = .ok (.iload_n 1, 1) := by decide +kernel
theorem dX5_knows_32 : decode cX5_knows 32 = .ok (.iload_n 2, 1) := by decide +kernel
theorem dX5_knows_33 : decode cX5_knows 33 = .ok (.invokevirtual 232, 3) := by decide +kernel
theorem dX5_knows_36 : decode cX5_knows 36 = .ok (.ifCond .eq 7, 3) := by decide +kernel
theorem dX5_knows_39 : decode cX5_knows 39 = .ok (.iconst 1, 1) := by decide +kernel
theorem dX5_knows_40 : decode cX5_knows 40 = .ok (.goto 4, 3) := by decide +kernel
theorem dX5_knows_43 : decode cX5_knows 43 = .ok (.iconst 0, 1) := by decide +kernel
theorem dX5_knows_44 : decode cX5_knows 44 = .ok (.ireturn, 1) := by decide +kernel
theorem dX5_tree_0 : decode cX5_tree 0 = .ok (.aload_n 0, 1) := by decide +kernel
theorem dX5_tree_1 : decode cX5_tree 1 = .ok (.iload_n 1, 1) := by decide +kernel
theorem dX5_tree_2 : decode cX5_tree 2 = .ok (.invokevirtual 121, 3) := by decide +kernel
theorem dX5_tree_5 : decode cX5_tree 5 = .ok (.ifCond .ne 9, 3) := by decide +kernel
theorem dX5_tree_8 : decode cX5_tree 8 = .ok (.aload_n 0, 1) := by decide +kernel
theorem dX5_tree_9 : decode cX5_tree 9 = .ok (.iconst (-1), 1) := by decide +kernel
theorem dX5_tree_10 : decode cX5_tree 10 = .ok (.invokevirtual 226, 3) := by decide +kernel
theorem dX5_tree_13 : decode cX5_tree 13 = .ok (.ireturn, 1) := by decide +kernel
theorem dX5_tree_14 : decode cX5_tree 14 = .ok (.iconst 0, 1) := by decide +kernel
theorem dX5_tree_15 : decode cX5_tree 15 = .ok (.istore_n 2, 1) := by decide +kernel
theorem dX5_tree_16 : decode cX5_tree 16 = .ok (.iload_n 2, 1) := by decide +kernel
theorem dX5_tree_17 : decode cX5_tree 17 = .ok (.iconst 3, 1) := by decide +kernel
theorem dX5_tree_18 : decode cX5_tree 18 = .ok (.if_icmp .ge 20, 3) := by decide +kernel
theorem dX5_tree_21 : decode cX5_tree 21 = .ok (.aload_n 0, 1) := by decide +kernel
theorem dX5_tree_22 : decode cX5_tree 22 = .ok (.iload_n 1, 1) := by decide +kernel
theorem dX5_tree_23 : decode cX5_tree 23 = .ok (.iload_n 2, 1) := by decide +kernel
theorem dX5_tree_24 : decode cX5_tree 24 = .ok (.invokevirtual 232, 3) := by decide +kernel
theorem dX5_tree_27 : decode cX5_tree 27 = .ok (.ifCond .eq 5, 3) := by decide +kernel
theorem dX5_tree_30 : decode cX5_tree 30 = .ok (.iload_n 2, 1) := by decide +kernel
theorem dX5_tree_31 : decode cX5_tree 31 = .ok (.ireturn, 1) := by decide +kernel
theorem dX5_tree_32 : decode cX5_tree 32 = .ok (.iinc 2 1, 3) := by decide +kernel
theorem dX5_tree_35 : decode cX5_tree 35 = .ok (.goto (-19), 3) := by decide +kernel
theorem dX5_tree_38 : decode cX5_tree 38 = .ok (.iconst (-1), 1) := by decide +kernel
theorem dX5_tree_39 : decode cX5_tree 39 = .ok (.ireturn, 1) := by decide +kernel
theorem dX5_isRow_0 : decode cX5_isRow 0 = .ok (.iconst 0, 1) := by decide +kernel
theorem dX5_isRow_1 : decode cX5_isRow 1 = .ok (.istore 4, 2) := by decide +kernel
theorem dX5_isRow_3 : decode cX5_isRow 3 = .ok (.iconst 0, 1) := by decide +kernel
theorem dX5_isRow_4 : decode cX5_isRow 4 = .ok (.istore 5, 2) := by decide +kernel
theorem dX5_isRow_6 : decode cX5_isRow 6 = .ok (.iload 5, 2) := by decide +kernel
theorem dX5_isRow_8 : decode cX5_isRow 8 = .ok (.iload_n 3, 1) := by decide +kernel
theorem dX5_isRow_9 : decode cX5_isRow 9 = .ok (.if_icmp .ge 99, 3) := by decide +kernel
theorem dX5_isRow_12 : decode cX5_isRow 12 = .ok (.iload_n 2, 1) := by decide +kernel
theorem dX5_isRow_13 : decode cX5_isRow 13 = .ok (.iload 5, 2) := by decide +kernel
theorem dX5_isRow_15 : decode cX5_isRow 15 = .ok (.ishr, 1) := by decide +kernel
theorem dX5_isRow_16 : decode cX5_isRow 16 = .ok (.iconst 1, 1) := by decide +kernel
theorem dX5_isRow_17 : decode cX5_isRow 17 = .ok (.iand, 1) := by decide +kernel
theorem dX5_isRow_18 : decode cX5_isRow 18 = .ok (.iconst 1, 1) := by decide +kernel
theorem dX5_isRow_19 : decode cX5_isRow 19 = .ok (.if_icmp .ne 7, 3) := by decide +kernel
theorem dX5_isRow_22 : decode cX5_isRow 22 = .ok (.iconst 1, 1) := by decide +kernel
theorem dX5_isRow_23 : decode cX5_isRow 23 = .ok (.goto 4, 3) := by decide +kernel
theorem dX5_isRow_26 : decode cX5_isRow 26 = .ok (.iconst 0, 1) := by decide +kernel
theorem dX5_isRow_27 : decode cX5_isRow 27 = .ok (.istore 6, 2) := by decide +kernel
theorem dX5_isRow_29 : decode cX5_isRow 29 = .ok (.iload 6, 2) := by decide +kernel
theorem dX5_isRow_31 : decode cX5_isRow 31 = .ok (.ifCond .eq 6, 3) := by decide +kernel
theorem dX5_isRow_34 : decode cX5_isRow 34 = .ok (.iinc 4 1, 3) := by decide +kernel
theorem dX5_isRow_37 : decode cX5_isRow 37 = .ok (.aload_n 0, 1) := by decide +kernel
theorem dX5_isRow_38 : decode cX5_isRow 38 = .ok (.iload_n 1, 1) := by decide +kernel
theorem dX5_isRow_39 : decode cX5_isRow 39 = .ok (.invokevirtual 127, 3) := by decide +kernel
theorem dX5_isRow_42 : decode cX5_isRow 42 = .ok (.ifCond .ne 17, 3) := by decide +kernel
theorem dX5_isRow_45 : decode cX5_isRow 45 = .ok (.iload 6, 2) := by decide +kernel
theorem dX5_isRow_47 : decode cX5_isRow 47 = .ok (.aload_n 0, 1) := by decide +kernel
theorem dX5_isRow_48 : decode cX5_isRow 48 = .ok (.iload_n 1, 1) := by decide +kernel
theorem dX5_isRow_49 : decode cX5_isRow 49 = .ok (.iload 5, 2) := by decide +kernel
theorem dX5_isRow_51 : decode cX5_isRow 51 = .ok (.invokevirtual 109, 3) := by decide +kernel
theorem dX5_isRow_54 : decode cX5_isRow 54 = .ok (.if_icmp .eq 5, 3) := by decide +kernel
theorem dX5_isRow_57 : decode cX5_isRow 57 = .ok (.iconst 0, 1) := by decide +kernel
theorem dX5_isRow_58 : decode cX5_isRow 58 = .ok (.ireturn, 1) := by decide +kernel
theorem dX5_isRow_59 : decode cX5_isRow 59 = .ok (.aload_n 0, 1) := by decide +kernel
theorem dX5_isRow_60 : decode cX5_isRow 60 = .ok (.getfield 36, 3) := by decide +kernel
theorem dX5_isRow_63 : decode cX5_isRow 63 = .ok (.iload_n 1, 1) := by decide +kernel
theorem dX5_isRow_64 : decode cX5_isRow 64 = .ok (.iaload, 1) := by decide +kernel
theorem dX5_isRow_65 : decode cX5_isRow 65 = .ok (.bipush 6, 2) := by decide +kernel
theorem dX5_isRow_67 : decode cX5_isRow 67 = .ok (.if_icmp .ne 35, 3) := by decide +kernel
theorem dX5_isRow_70 : decode cX5_isRow 70 = .ok (.iload 5, 2) := by decide +kernel
theorem dX5_isRow_72 : decode cX5_isRow 72 = .ok (.iconst 2, 1) := by decide +kernel
theorem dX5_isRow_73 : decode cX5_isRow 73 = .ok (.irem, 1) := by decide +kernel
theorem dX5_isRow_74 : decode cX5_isRow 74 = .ok (.iconst 1, 1) := by decide +kernel
theorem dX5_isRow_75 : decode cX5_isRow 75 = .ok (.if_icmp .ne 27, 3) := by decide +kernel
theorem dX5_isRow_78 : decode cX5_isRow 78 = .ok (.iload 6, 2) := by decide +kernel
theorem dX5_isRow_80 : decode cX5_isRow 80 = .ok (.iload_n 2, 1) := by decide +kernel
theorem dX5_isRow_81 : decode cX5_isRow 81 = .ok (.iload 5, 2) := by decide +kernel
theorem dX5_isRow_83 : decode cX5_isRow 83 = .ok (.iconst 1, 1) := by decide +kernel
theorem dX5_isRow_84 : decode cX5_isRow 84 = .ok (.isub, 1) := by decide +kernel
theorem dX5_isRow_85 : decode cX5_isRow 85 = .ok (.ishr, 1) := by decide +kernel
theorem dX5_isRow_86 : decode cX5_isRow 86 = .ok (.iconst 1, 1) := by decide +kernel
theorem dX5_isRow_87 : decode cX5_isRow 87 = .ok (.iand, 1) := by decide +kernel
theorem dX5_isRow_88 : decode cX5_isRow 88 = .ok (.iconst 1, 1) := by decide +kernel
theorem dX5_isRow_89 : decode cX5_isRow 89 = .ok (.if_icmp .ne 7, 3) := by decide +kernel
theorem dX5_isRow_92 : decode cX5_isRow 92 = .ok (.iconst 1, 1) := by decide +kernel
theorem dX5_isRow_93 : decode cX5_isRow 93 = .ok (.goto 4, 3) := by decide +kernel
theorem dX5_isRow_96 : decode cX5_isRow 96 = .ok (.iconst 0, 1) := by decide +kernel
theorem dX5_isRow_97 : decode cX5_isRow 97 = .ok (.if_icmp .ne 5, 3) := by decide +kernel
theorem dX5_isRow_100 : decode cX5_isRow 100 = .ok (.iconst 0, 1) := by decide +kernel
theorem dX5_isRow_101 : decode cX5_isRow 101 = .ok (.ireturn, 1) := by decide +kernel
theorem dX5_isRow_102 : decode cX5_isRow 102 = .ok (.iinc 5 1, 3) := by decide +kernel
theorem dX5_isRow_105 : decode cX5_isRow 105 = .ok (.goto (-99), 3) := by decide +kernel
theorem dX5_isRow_108 : decode cX5_isRow 108 = .ok (.aload_n 0, 1) := by decide +kernel
theorem dX5_isRow_109 : decode cX5_isRow 109 = .ok (.getfield 36, 3) := by decide +kernel
theorem dX5_isRow_112 : decode cX5_isRow 112 = .ok (.iload_n 1, 1) := by decide +kernel
theorem dX5_isRow_113 : decode cX5_isRow 113 = .ok (.iaload, 1) := by decide +kernel
theorem dX5_isRow_114 : decode cX5_isRow 114 = .ok (.ifCond .ne 28, 3) := by decide +kernel
theorem dX5_isRow_117 : decode cX5_isRow 117 = .ok (.iload 4, 2) := by decide +kernel
theorem dX5_isRow_119 : decode cX5_isRow 119 = .ok (.aload_n 0, 1) := by decide +kernel
theorem dX5_isRow_120 : decode cX5_isRow 120 = .ok (.getfield 13, 3) := by decide +kernel
theorem dX5_isRow_123 : decode cX5_isRow 123 = .ok (.if_icmp .gt 23, 3) := by decide +kernel
theorem dX5_isRow_126 : decode cX5_isRow 126 = .ok (.iload_n 3, 1) := by decide +kernel
theorem dX5_isRow_127 : decode cX5_isRow 127 = .ok (.iload 4, 2) := by decide +kernel
theorem dX5_isRow_129 : decode cX5_isRow 129 = .ok (.isub, 1) := by decide +kernel
theorem dX5_isRow_130 : decode cX5_isRow 130 = .ok (.aload_n 0, 1) := by decide +kernel
theorem dX5_isRow_131 : decode cX5_isRow 131 = .ok (.getfield 7, 3) := by decide +kernel
theorem dX5_isRow_134 : decode cX5_isRow 134 = .ok (.aload_n 0, 1) := by decide +kernel
theorem dX5_isRow_135 : decode cX5_isRow 135 = .ok (.getfield 13, 3) := by decide +kernel
theorem dX5_isRow_138 : decode cX5_isRow 138 = .ok (.isub, 1) := by decide +kernel
theorem dX5_isRow_139 : decode cX5_isRow 139 = .ok (.if_icmp .gt 7, 3) := by decide +kernel
theorem dX5_isRow_142 : decode cX5_isRow 142 = .ok (.iconst 1, 1) := by decide +kernel
theorem dX5_isRow_143 : decode cX5_isRow 143 = .ok (.goto 4, 3) := by decide +kernel
theorem dX5_isRow_146 : decode cX5_isRow 146 = .ok (.iconst 0, 1) := by decide +kernel
theorem dX5_isRow_147 : decode cX5_isRow 147 = .ok (.ireturn, 1) := by decide +kernel
theorem dX5_rowsOf_0 : decode cX5_rowsOf 0 = .ok (.iconst 0, 1) := by decide +kernel
theorem dX5_rowsOf_1 : decode cX5_rowsOf 1 = .ok (.istore_n 3, 1) := by decide +kernel
theorem dX5_rowsOf_2 : decode cX5_rowsOf 2 = .ok (.iconst 0, 1) := by decide +kernel
theorem dX5_rowsOf_3 : decode cX5_rowsOf 3 = .ok (.istore 4, 2) := by decide +kernel
theorem dX5_rowsOf_5 : decode cX5_rowsOf 5 = .ok (.iload 4, 2) := by decide +kernel
theorem dX5_rowsOf_7 : decode cX5_rowsOf 7 = .ok (.iconst 1, 1) := by decide +kernel
theorem dX5_rowsOf_8 : decode cX5_rowsOf 8 = .ok (.iload_n 2, 1) := by decide +kernel
theorem dX5_rowsOf_9 : decode cX5_rowsOf 9 = .ok (.ishl, 1) := by decide +kernel
theorem dX5_rowsOf_10 : decode cX5_rowsOf 10 = .ok (.if_icmp .ge 23, 3) := by decide +kernel
theorem dX5_rowsOf_13 : decode cX5_rowsOf 13 = .ok (.aload_n 0, 1) := by decide +kernel
theorem dX5_rowsOf_14 : decode cX5_rowsOf 14 = .ok (.iload_n 1, 1) := by decide +kernel
theorem dX5_rowsOf_15 : decode cX5_rowsOf 15 = .ok (.iload 4, 2) := by decide +kernel
theorem dX5_rowsOf_17 : decode cX5_rowsOf 17 = .ok (.iload_n 2, 1) := by decide +kernel
theorem dX5_rowsOf_18 : decode cX5_rowsOf 18 = .ok (.invokevirtual 235, 3) := by decide +kernel
theorem dX5_rowsOf_21 : decode cX5_rowsOf 21 = .ok (.ifCond .eq 6, 3) := by decide +kernel
theorem dX5_rowsOf_24 : decode cX5_rowsOf 24 = .ok (.iinc 3 1, 3) := by decide +kernel
theorem dX5_rowsOf_27 : decode cX5_rowsOf 27 = .ok (.iinc 4 1, 3) := by decide +kernel
theorem dX5_rowsOf_30 : decode cX5_rowsOf 30 = .ok (.goto (-25), 3) := by decide +kernel
theorem dX5_rowsOf_33 : decode cX5_rowsOf 33 = .ok (.iload_n 3, 1) := by decide +kernel
theorem dX5_rowsOf_34 : decode cX5_rowsOf 34 = .ok (.ireturn, 1) := by decide +kernel
theorem dX5_rows_0 : decode cX5_rows 0 = .ok (.aload_n 0, 1) := by decide +kernel
theorem dX5_rows_1 : decode cX5_rows 1 = .ok (.iload_n 1, 1) := by decide +kernel
theorem dX5_rows_2 : decode cX5_rows 2 = .ok (.invokevirtual 103, 3) := by decide +kernel
theorem dX5_rows_5 : decode cX5_rows 5 = .ok (.ifCond .ne 9, 3) := by decide +kernel
theorem dX5_rows_8 : decode cX5_rows 8 = .ok (.aload_n 0, 1) := by decide +kernel
theorem dX5_rows_9 : decode cX5_rows 9 = .ok (.iconst (-1), 1) := by decide +kernel
theorem dX5_rows_10 : decode cX5_rows 10 = .ok (.invokevirtual 99, 3) := by decide +kernel
theorem dX5_rows_13 : decode cX5_rows 13 = .ok (.ireturn, 1) := by decide +kernel
theorem dX5_rows_14 : decode cX5_rows 14 = .ok (.iload_n 2, 1) := by decide +kernel
theorem dX5_rows_15 : decode cX5_rows 15 = .ok (.ifCond .lt 20, 3) := by decide +kernel
theorem dX5_rows_18 : decode cX5_rows 18 = .ok (.iload_n 2, 1) := by decide +kernel
theorem dX5_rows_19 : decode cX5_rows 19 = .ok (.aload_n 0, 1) := by decide +kernel
theorem dX5_rows_20 : decode cX5_rows 20 = .ok (.getfield 7, 3) := by decide +kernel
theorem dX5_rows_23 : decode cX5_rows 23 = .ok (.if_icmp .gt 12, 3) := by decide +kernel
theorem dX5_rows_26 : decode cX5_rows 26 = .ok (.aload_n 0, 1) := by decide +kernel
theorem dX5_rows_27 : decode cX5_rows 27 = .ok (.iload_n 1, 1) := by decide +kernel
theorem dX5_rows_28 : decode cX5_rows 28 = .ok (.iload_n 2, 1) := by decide +kernel
theorem dX5_rows_29 : decode cX5_rows 29 = .ok (.invokevirtual 238, 3) := by decide +kernel
theorem dX5_rows_32 : decode cX5_rows 32 = .ok (.goto 9, 3) := by decide +kernel
theorem dX5_rows_35 : decode cX5_rows 35 = .ok (.aload_n 0, 1) := by decide +kernel
theorem dX5_rows_36 : decode cX5_rows 36 = .ok (.bipush (-6), 2) := by decide +kernel
theorem dX5_rows_38 : decode cX5_rows 38 = .ok (.invokevirtual 99, 3) := by decide +kernel
theorem dX5_rows_41 : decode cX5_rows 41 = .ok (.ireturn, 1) := by decide +kernel
theorem dX5_tells_0 : decode cX5_tells 0 = .ok (.aload_n 0, 1) := by decide +kernel
theorem dX5_tells_1 : decode cX5_tells 1 = .ok (.iload_n 1, 1) := by decide +kernel
theorem dX5_tells_2 : decode cX5_tells 2 = .ok (.invokevirtual 103, 3) := by decide +kernel
theorem dX5_tells_5 : decode cX5_tells 5 = .ok (.ifCond .ne 9, 3) := by decide +kernel
theorem dX5_tells_8 : decode cX5_tells 8 = .ok (.aload_n 0, 1) := by decide +kernel
theorem dX5_tells_9 : decode cX5_tells 9 = .ok (.iconst (-1), 1) := by decide +kernel
theorem dX5_tells_10 : decode cX5_tells 10 = .ok (.invokevirtual 226, 3) := by decide +kernel
theorem dX5_tells_13 : decode cX5_tells 13 = .ok (.ireturn, 1) := by decide +kernel
theorem dX5_tells_14 : decode cX5_tells 14 = .ok (.iload_n 2, 1) := by decide +kernel
theorem dX5_tells_15 : decode cX5_tells 15 = .ok (.iconst 1, 1) := by decide +kernel
theorem dX5_tells_16 : decode cX5_tells 16 = .ok (.if_icmp .lt 10, 3) := by decide +kernel
theorem dX5_tells_19 : decode cX5_tells 19 = .ok (.iload_n 2, 1) := by decide +kernel
theorem dX5_tells_20 : decode cX5_tells 20 = .ok (.sipush 1024, 3) := by decide +kernel
theorem dX5_tells_23 : decode cX5_tells 23 = .ok (.if_icmp .le 10, 3) := by decide +kernel
theorem dX5_tells_26 : decode cX5_tells 26 = .ok (.aload_n 0, 1) := by decide +kernel
theorem dX5_tells_27 : decode cX5_tells 27 = .ok (.bipush (-6), 2) := by decide +kernel
theorem dX5_tells_29 : decode cX5_tells 29 = .ok (.invokevirtual 226, 3) := by decide +kernel
theorem dX5_tells_32 : decode cX5_tells 32 = .ok (.ireturn, 1) := by decide +kernel
theorem dX5_tells_33 : decode cX5_tells 33 = .ok (.iconst 0, 1) := by decide +kernel
theorem dX5_tells_34 : decode cX5_tells 34 = .ok (.istore_n 3, 1) := by decide +kernel
theorem dX5_tells_35 : decode cX5_tells 35 = .ok (.iload_n 3, 1) := by decide +kernel
theorem dX5_tells_36 : decode cX5_tells 36 = .ok (.aload_n 0, 1) := by decide +kernel
theorem dX5_tells_37 : decode cX5_tells 37 = .ok (.getfield 7, 3) := by decide +kernel
theorem dX5_tells_40 : decode cX5_tells 40 = .ok (.if_icmp .gt 21, 3) := by decide +kernel
theorem dX5_tells_43 : decode cX5_tells 43 = .ok (.aload_n 0, 1) := by decide +kernel
theorem dX5_tells_44 : decode cX5_tells 44 = .ok (.iload_n 1, 1) := by decide +kernel
theorem dX5_tells_45 : decode cX5_tells 45 = .ok (.iload_n 3, 1) := by decide +kernel
theorem dX5_tells_46 : decode cX5_tells 46 = .ok (.invokevirtual 238, 3) := by decide +kernel
theorem dX5_tells_49 : decode cX5_tells 49 = .ok (.iload_n 2, 1) := by decide +kernel
theorem dX5_tells_50 : decode cX5_tells 50 = .ok (.if_icmp .lt 5, 3) := by decide +kernel
theorem dX5_tells_53 : decode cX5_tells 53 = .ok (.iload_n 3, 1) := by decide +kernel
theorem dX5_tells_54 : decode cX5_tells 54 = .ok (.ireturn, 1) := by decide +kernel
theorem dX5_tells_55 : decode cX5_tells 55 = .ok (.iinc 3 1, 3) := by decide +kernel
theorem dX5_tells_58 : decode cX5_tells 58 = .ok (.goto (-23), 3) := by decide +kernel
theorem dX5_tells_61 : decode cX5_tells 61 = .ok (.iconst (-1), 1) := by decide +kernel
theorem dX5_tells_62 : decode cX5_tells 62 = .ok (.ireturn, 1) := by decide +kernel
theorem dX5_errandsOf_0 : decode cX5_errandsOf 0 = .ok (.aload_n 0, 1) := by decide +kernel
theorem dX5_errandsOf_1 : decode cX5_errandsOf 1 = .ok (.iload_n 1, 1) := by decide +kernel
theorem dX5_errandsOf_2 : decode cX5_errandsOf 2 = .ok (.invokevirtual 208, 3) := by decide +kernel
theorem dX5_errandsOf_5 : decode cX5_errandsOf 5 = .ok (.istore_n 3, 1) := by decide +kernel
theorem dX5_errandsOf_6 : decode cX5_errandsOf 6 = .ok (.iload_n 3, 1) := by decide +kernel
theorem dX5_errandsOf_7 : decode cX5_errandsOf 7 = .ok (.ifCond .eq 5, 3) := by decide +kernel
theorem dX5_errandsOf_10 : decode cX5_errandsOf 10 = .ok (.iload_n 3, 1) := by decide +kernel
theorem dX5_errandsOf_11 : decode cX5_errandsOf 11 = .ok (.ireturn, 1) := by decide +kernel
theorem dX5_errandsOf_12 : decode cX5_errandsOf 12 = .ok (.aload_n 0, 1) := by decide +kernel
theorem dX5_errandsOf_13 : decode cX5_errandsOf 13 = .ok (.getfield 57, 3) := by decide +kernel
theorem dX5_errandsOf_16 : decode cX5_errandsOf 16 = .ok (.iload_n 1, 1) := by decide +kernel
theorem dX5_errandsOf_17 : decode cX5_errandsOf 17 = .ok (.iaload, 1) := by decide +kernel
theorem dX5_errandsOf_18 : decode cX5_errandsOf 18 = .ok (.bipush 10, 2) := by decide +kernel
theorem dX5_errandsOf_20 : decode cX5_errandsOf 20 = .ok (.if_icmp .gt 13, 3) := by decide +kernel
theorem dX5_errandsOf_23 : decode cX5_errandsOf 23 = .ok (.iload_n 2, 1) := by decide +kernel
theorem dX5_errandsOf_24 : decode cX5_errandsOf 24 = .ok (.ifCond .lt 9, 3) := by decide +kernel
theorem dX5_errandsOf_27 : decode cX5_errandsOf 27 = .ok (.iload_n 2, 1) := by decide +kernel
theorem dX5_errandsOf_28 : decode cX5_errandsOf 28 = .ok (.bipush 10, 2) := by decide +kernel
theorem dX5_errandsOf_30 : decode cX5_errandsOf 30 = .ok (.if_icmp .le 6, 3) := by decide +kernel
theorem dX5_errandsOf_33 : decode cX5_errandsOf 33 = .ok (.bipush (-6), 2) := by decide +kernel
theorem dX5_errandsOf_35 : decode cX5_errandsOf 35 = .ok (.ireturn, 1) := by decide +kernel
theorem dX5_errandsOf_36 : decode cX5_errandsOf 36 = .ok (.iconst 0, 1) := by decide +kernel
theorem dX5_errandsOf_37 : decode cX5_errandsOf 37 = .ok (.istore 4, 2) := by decide +kernel
theorem dX5_errandsOf_39 : decode cX5_errandsOf 39 = .ok (.iconst 0, 1) := by decide +kernel
theorem dX5_errandsOf_40 : decode cX5_errandsOf 40 = .ok (.istore 5, 2) := by decide +kernel
theorem dX5_errandsOf_42 : decode cX5_errandsOf 42 = .ok (.iload 5, 2) := by decide +kernel
theorem dX5_errandsOf_44 : decode cX5_errandsOf 44 = .ok (.aload_n 0, 1) := by decide +kernel
theorem dX5_errandsOf_45 : decode cX5_errandsOf 45 = .ok (.getfield 57, 3) := by decide +kernel
theorem dX5_errandsOf_48 : decode cX5_errandsOf 48 = .ok (.iload_n 1, 1) := by decide +kernel
theorem dX5_errandsOf_49 : decode cX5_errandsOf 49 = .ok (.iaload, 1) := by decide +kernel
theorem dX5_errandsOf_50 : decode cX5_errandsOf 50 = .ok (.if_icmp .ge 33, 3) := by decide +kernel
theorem dX5_errandsOf_53 : decode cX5_errandsOf 53 = .ok (.iload 4, 2) := by decide +kernel
theorem dX5_errandsOf_55 : decode cX5_errandsOf 55 = .ok (.aload_n 0, 1) := by decide +kernel
theorem dX5_errandsOf_56 : decode cX5_errandsOf 56 = .ok (.aload_n 0, 1) := by decide +kernel
theorem dX5_errandsOf_57 : decode cX5_errandsOf 57 = .ok (.iload_n 1, 1) := by decide +kernel
theorem dX5_errandsOf_58 : decode cX5_errandsOf 58 = .ok (.iload 5, 2) := by decide +kernel
theorem dX5_errandsOf_60 : decode cX5_errandsOf 60 = .ok (.invokevirtual 241, 3) := by decide +kernel
theorem dX5_errandsOf_63 : decode cX5_errandsOf 63 = .ok (.invokevirtual 121, 3) := by decide +kernel
theorem dX5_errandsOf_66 : decode cX5_errandsOf 66 = .ok (.ifCond .eq 7, 3) := by decide +kernel
theorem dX5_errandsOf_69 : decode cX5_errandsOf 69 = .ok (.iconst 1, 1) := by decide +kernel
theorem dX5_errandsOf_70 : decode cX5_errandsOf 70 = .ok (.goto 4, 3) := by decide +kernel
theorem dX5_errandsOf_73 : decode cX5_errandsOf 73 = .ok (.iconst 0, 1) := by decide +kernel
theorem dX5_errandsOf_74 : decode cX5_errandsOf 74 = .ok (.iadd, 1) := by decide +kernel
theorem dX5_errandsOf_75 : decode cX5_errandsOf 75 = .ok (.istore 4, 2) := by decide +kernel
theorem dX5_errandsOf_77 : decode cX5_errandsOf 77 = .ok (.iinc 5 1, 3) := by decide +kernel
theorem dX5_errandsOf_80 : decode cX5_errandsOf 80 = .ok (.goto (-38), 3) := by decide +kernel
theorem dX5_errandsOf_83 : decode cX5_errandsOf 83 = .ok (.aload_n 0, 1) := by decide +kernel
theorem dX5_errandsOf_84 : decode cX5_errandsOf 84 = .ok (.getfield 7, 3) := by decide +kernel
theorem dX5_errandsOf_87 : decode cX5_errandsOf 87 = .ok (.aload_n 0, 1) := by decide +kernel
theorem dX5_errandsOf_88 : decode cX5_errandsOf 88 = .ok (.getfield 13, 3) := by decide +kernel
theorem dX5_errandsOf_91 : decode cX5_errandsOf 91 = .ok (.isub, 1) := by decide +kernel
theorem dX5_errandsOf_92 : decode cX5_errandsOf 92 = .ok (.iload 4, 2) := by decide +kernel
theorem dX5_errandsOf_94 : decode cX5_errandsOf 94 = .ok (.iload_n 2, 1) := by decide +kernel
theorem dX5_errandsOf_95 : decode cX5_errandsOf 95 = .ok (.iadd, 1) := by decide +kernel
theorem dX5_errandsOf_96 : decode cX5_errandsOf 96 = .ok (.if_icmp .ge 15, 3) := by decide +kernel
theorem dX5_errandsOf_99 : decode cX5_errandsOf 99 = .ok (.aload_n 0, 1) := by decide +kernel
theorem dX5_errandsOf_100 : decode cX5_errandsOf 100 = .ok (.getfield 7, 3) := by decide +kernel
theorem dX5_errandsOf_103 : decode cX5_errandsOf 103 = .ok (.aload_n 0, 1) := by decide +kernel
theorem dX5_errandsOf_104 : decode cX5_errandsOf 104 = .ok (.getfield 13, 3) := by decide +kernel
theorem dX5_errandsOf_107 : decode cX5_errandsOf 107 = .ok (.isub, 1) := by decide +kernel
theorem dX5_errandsOf_108 : decode cX5_errandsOf 108 = .ok (.goto 7, 3) := by decide +kernel
theorem dX5_errandsOf_111 : decode cX5_errandsOf 111 = .ok (.iload 4, 2) := by decide +kernel
theorem dX5_errandsOf_113 : decode cX5_errandsOf 113 = .ok (.iload_n 2, 1) := by decide +kernel
theorem dX5_errandsOf_114 : decode cX5_errandsOf 114 = .ok (.iadd, 1) := by decide +kernel
theorem dX5_errandsOf_115 : decode cX5_errandsOf 115 = .ok (.istore 5, 2) := by decide +kernel
theorem dX5_errandsOf_117 : decode cX5_errandsOf 117 = .ok (.aload_n 0, 1) := by decide +kernel
theorem dX5_errandsOf_118 : decode cX5_errandsOf 118 = .ok (.iconst 0, 1) := by decide +kernel
theorem dX5_errandsOf_119 : decode cX5_errandsOf 119 = .ok (.putfield 244, 3) := by decide +kernel
theorem dX5_errandsOf_122 : decode cX5_errandsOf 122 = .ok (.aload_n 0, 1) := by decide +kernel
theorem dX5_errandsOf_123 : decode cX5_errandsOf 123 = .ok (.iconst 0, 1) := by decide +kernel
theorem dX5_errandsOf_124 : decode cX5_errandsOf 124 = .ok (.putfield 247, 3) := by decide +kernel
theorem dX5_errandsOf_127 : decode cX5_errandsOf 127 = .ok (.iload_n 2, 1) := by decide +kernel
theorem dX5_errandsOf_128 : decode cX5_errandsOf 128 = .ok (.istore 6, 2) := by decide +kernel
theorem dX5_errandsOf_130 : decode cX5_errandsOf 130 = .ok (.iload 6, 2) := by decide +kernel
theorem dX5_errandsOf_132 : decode cX5_errandsOf 132 = .ok (.iload 5, 2) := by decide +kernel
theorem dX5_errandsOf_134 : decode cX5_errandsOf 134 = .ok (.if_icmp .ge 133, 3) := by decide +kernel
theorem dX5_errandsOf_137 : decode cX5_errandsOf 137 = .ok (.iconst (-1), 1) := by decide +kernel
theorem dX5_errandsOf_138 : decode cX5_errandsOf 138 = .ok (.istore 7, 2) := by decide +kernel
theorem dX5_errandsOf_140 : decode cX5_errandsOf 140 = .ok (.iconst 0, 1) := by decide +kernel
theorem dX5_errandsOf_141 : decode cX5_errandsOf 141 = .ok (.istore 8, 2) := by decide +kernel
theorem dX5_errandsOf_143 : decode cX5_errandsOf 143 = .ok (.iload 8, 2) := by decide +kernel
theorem dX5_errandsOf_145 : decode cX5_errandsOf 145 = .ok (.aload_n 0, 1) := by decide +kernel
theorem dX5_errandsOf_146 : decode cX5_errandsOf 146 = .ok (.getfield 57, 3) := by decide +kernel
theorem dX5_errandsOf_149 : decode cX5_errandsOf 149 = .ok (.iload_n 1, 1) := by decide +kernel
theorem dX5_errandsOf_150 : decode cX5_errandsOf 150 = .ok (.iaload, 1) := by decide +kernel
theorem dX5_errandsOf_151 : decode cX5_errandsOf 151 = .ok (.if_icmp .ge 76, 3) := by decide +kernel
theorem dX5_errandsOf_154 : decode cX5_errandsOf 154 = .ok (.aload_n 0, 1) := by decide +kernel
theorem dX5_errandsOf_155 : decode cX5_errandsOf 155 = .ok (.aload_n 0, 1) := by decide +kernel
theorem dX5_errandsOf_156 : decode cX5_errandsOf 156 = .ok (.iload_n 1, 1) := by decide +kernel
theorem dX5_errandsOf_157 : decode cX5_errandsOf 157 = .ok (.iload 8, 2) := by decide +kernel
theorem dX5_errandsOf_159 : decode cX5_errandsOf 159 = .ok (.invokevirtual 241, 3) := by decide +kernel
theorem dX5_errandsOf_162 : decode cX5_errandsOf 162 = .ok (.invokevirtual 121, 3) := by decide +kernel
theorem dX5_errandsOf_165 : decode cX5_errandsOf 165 = .ok (.ifCond .eq 56, 3) := by decide +kernel
theorem dX5_errandsOf_168 : decode cX5_errandsOf 168 = .ok (.aload_n 0, 1) := by decide +kernel
theorem dX5_errandsOf_169 : decode cX5_errandsOf 169 = .ok (.getfield 247, 3) := by decide +kernel
theorem dX5_errandsOf_172 : decode cX5_errandsOf 172 = .ok (.iload 8, 2) := by decide +kernel
theorem dX5_errandsOf_174 : decode cX5_errandsOf 174 = .ok (.ishr, 1) := by decide +kernel
theorem dX5_errandsOf_175 : decode cX5_errandsOf 175 = .ok (.iconst 1, 1) := by decide +kernel
theorem dX5_errandsOf_176 : decode cX5_errandsOf 176 = .ok (.iand, 1) := by decide +kernel
theorem dX5_errandsOf_177 : decode cX5_errandsOf 177 = .ok (.iconst 1, 1) := by decide +kernel
theorem dX5_errandsOf_178 : decode cX5_errandsOf 178 = .ok (.if_icmp .ne 6, 3) := by decide +kernel
theorem dX5_errandsOf_181 : decode cX5_errandsOf 181 = .ok (.goto 40, 3) := by decide +kernel
theorem dX5_errandsOf_184 : decode cX5_errandsOf 184 = .ok (.iload 7, 2) := by decide +kernel
theorem dX5_errandsOf_186 : decode cX5_errandsOf 186 = .ok (.iconst (-1), 1) := by decide +kernel
theorem dX5_errandsOf_187 : decode cX5_errandsOf 187 = .ok (.if_icmp .eq 30, 3) := by decide +kernel
theorem dX5_errandsOf_190 : decode cX5_errandsOf 190 = .ok (.aload_n 0, 1) := by decide +kernel
theorem dX5_errandsOf_191 : decode cX5_errandsOf 191 = .ok (.getfield 33, 3) := by decide +kernel
theorem dX5_errandsOf_194 : decode cX5_errandsOf 194 = .ok (.aload_n 0, 1) := by decide +kernel
theorem dX5_errandsOf_195 : decode cX5_errandsOf 195 = .ok (.iload_n 1, 1) := by decide +kernel
theorem dX5_errandsOf_196 : decode cX5_errandsOf 196 = .ok (.iload 8, 2) := by decide +kernel
theorem dX5_errandsOf_198 : decode cX5_errandsOf 198 = .ok (.invokevirtual 241, 3) := by decide +kernel
theorem dX5_errandsOf_201 : decode cX5_errandsOf 201 = .ok (.iaload, 1) := by decide +kernel
theorem dX5_errandsOf_202 : decode cX5_errandsOf 202 = .ok (.aload_n 0, 1) := by decide +kernel
theorem dX5_errandsOf_203 : decode cX5_errandsOf 203 = .ok (.getfield 33, 3) := by decide +kernel
theorem dX5_errandsOf_206 : decode cX5_errandsOf 206 = .ok (.aload_n 0, 1) := by decide +kernel
theorem dX5_errandsOf_207 : decode cX5_errandsOf 207 = .ok (.iload_n 1, 1) := by decide +kernel
theorem dX5_errandsOf_208 : decode cX5_errandsOf 208 = .ok (.iload 7, 2) := by decide +kernel
theorem dX5_errandsOf_210 : decode cX5_errandsOf 210 = .ok (.invokevirtual 241, 3) := by decide +kernel
theorem dX5_errandsOf_213 : decode cX5_errandsOf 213 = .ok (.iaload, 1) := by decide +kernel
theorem dX5_errandsOf_214 : decode cX5_errandsOf 214 = .ok (.if_icmp .ge 7, 3) := by decide +kernel
theorem dX5_errandsOf_217 : decode cX5_errandsOf 217 = .ok (.iload 8, 2) := by decide +kernel
theorem dX5_errandsOf_219 : decode cX5_errandsOf 219 = .ok (.istore 7, 2) := by decide +kernel
theorem dX5_errandsOf_221 : decode cX5_errandsOf 221 = .ok (.iinc 8 1, 3) := by decide +kernel
theorem dX5_errandsOf_224 : decode cX5_errandsOf 224 = .ok (.goto (-81), 3) := by decide +kernel
theorem dX5_errandsOf_227 : decode cX5_errandsOf 227 = .ok (.aload_n 0, 1) := by decide +kernel
theorem dX5_errandsOf_228 : decode cX5_errandsOf 228 = .ok (.dup, 1) := by decide +kernel
theorem dX5_errandsOf_229 : decode cX5_errandsOf 229 = .ok (.getfield 247, 3) := by decide +kernel
theorem dX5_errandsOf_232 : decode cX5_errandsOf 232 = .ok (.iconst 1, 1) := by decide +kernel
theorem dX5_errandsOf_233 : decode cX5_errandsOf 233 = .ok (.iload 7, 2) := by decide +kernel
theorem dX5_errandsOf_235 : decode cX5_errandsOf 235 = .ok (.ishl, 1) := by decide +kernel
theorem dX5_errandsOf_236 : decode cX5_errandsOf 236 = .ok (.ior, 1) := by decide +kernel
theorem dX5_errandsOf_237 : decode cX5_errandsOf 237 = .ok (.putfield 247, 3) := by decide +kernel
theorem dX5_errandsOf_240 : decode cX5_errandsOf 240 = .ok (.aload_n 0, 1) := by decide +kernel
theorem dX5_errandsOf_241 : decode cX5_errandsOf 241 = .ok (.dup, 1) := by decide +kernel
theorem dX5_errandsOf_242 : decode cX5_errandsOf 242 = .ok (.getfield 244, 3) := by decide +kernel
theorem dX5_errandsOf_245 : decode cX5_errandsOf 245 = .ok (.aload_n 0, 1) := by decide +kernel
theorem dX5_errandsOf_246 : decode cX5_errandsOf 246 = .ok (.getfield 33, 3) := by decide +kernel
theorem dX5_errandsOf_249 : decode cX5_errandsOf 249 = .ok (.aload_n 0, 1) := by decide +kernel
theorem dX5_errandsOf_250 : decode cX5_errandsOf 250 = .ok (.iload_n 1, 1) := by decide +kernel
theorem dX5_errandsOf_251 : decode cX5_errandsOf 251 = .ok (.iload 7, 2) := by decide +kernel
theorem dX5_errandsOf_253 : decode cX5_errandsOf 253 = .ok (.invokevirtual 241, 3) := by decide +kernel
theorem dX5_errandsOf_256 : decode cX5_errandsOf 256 = .ok (.iaload, 1) := by decide +kernel
theorem dX5_errandsOf_257 : decode cX5_errandsOf 257 = .ok (.iadd, 1) := by decide +kernel
theorem dX5_errandsOf_258 : decode cX5_errandsOf 258 = .ok (.putfield 244, 3) := by decide +kernel
theorem dX5_errandsOf_261 : decode cX5_errandsOf 261 = .ok (.iinc 6 1, 3) := by decide +kernel
theorem dX5_errandsOf_264 : decode cX5_errandsOf 264 = .ok (.goto (-134), 3) := by decide +kernel
theorem dX5_errandsOf_267 : decode cX5_errandsOf 267 = .ok (.iconst 0, 1) := by decide +kernel
theorem dX5_errandsOf_268 : decode cX5_errandsOf 268 = .ok (.ireturn, 1) := by decide +kernel
theorem dX5_errands_0 : decode cX5_errands 0 = .ok (.aload_n 0, 1) := by decide +kernel
theorem dX5_errands_1 : decode cX5_errands 1 = .ok (.iload_n 1, 1) := by decide +kernel
theorem dX5_errands_2 : decode cX5_errands 2 = .ok (.iload_n 2, 1) := by decide +kernel
theorem dX5_errands_3 : decode cX5_errands 3 = .ok (.invokevirtual 250, 3) := by decide +kernel
theorem dX5_errands_6 : decode cX5_errands 6 = .ok (.istore_n 3, 1) := by decide +kernel
theorem dX5_errands_7 : decode cX5_errands 7 = .ok (.iload_n 3, 1) := by decide +kernel
theorem dX5_errands_8 : decode cX5_errands 8 = .ok (.ifCond .eq 11, 3) := by decide +kernel
theorem dX5_errands_11 : decode cX5_errands 11 = .ok (.aload_n 0, 1) := by decide +kernel
theorem dX5_errands_12 : decode cX5_errands 12 = .ok (.iload_n 3, 1) := by decide +kernel
theorem dX5_errands_13 : decode cX5_errands 13 = .ok (.invokevirtual 99, 3) := by decide +kernel
theorem dX5_errands_16 : decode cX5_errands 16 = .ok (.goto 7, 3) := by decide +kernel
theorem dX5_errands_19 : decode cX5_errands 19 = .ok (.aload_n 0, 1) := by decide +kernel
theorem dX5_errands_20 : decode cX5_errands 20 = .ok (.getfield 244, 3) := by decide +kernel
theorem dX5_errands_23 : decode cX5_errands 23 = .ok (.ireturn, 1) := by decide +kernel
theorem dX5_placed_0 : decode cX5_placed 0 = .ok (.aload_n 0, 1) := by decide +kernel
theorem dX5_placed_1 : decode cX5_placed 1 = .ok (.iload_n 1, 1) := by decide +kernel
theorem dX5_placed_2 : decode cX5_placed 2 = .ok (.iload_n 2, 1) := by decide +kernel
theorem dX5_placed_3 : decode cX5_placed 3 = .ok (.invokevirtual 250, 3) := by decide +kernel
theorem dX5_placed_6 : decode cX5_placed 6 = .ok (.istore_n 3, 1) := by decide +kernel
theorem dX5_placed_7 : decode cX5_placed 7 = .ok (.iload_n 3, 1) := by decide +kernel
theorem dX5_placed_8 : decode cX5_placed 8 = .ok (.ifCond .eq 11, 3) := by decide +kernel
theorem dX5_placed_11 : decode cX5_placed 11 = .ok (.aload_n 0, 1) := by decide +kernel
theorem dX5_placed_12 : decode cX5_placed 12 = .ok (.iload_n 3, 1) := by decide +kernel
theorem dX5_placed_13 : decode cX5_placed 13 = .ok (.invokevirtual 99, 3) := by decide +kernel
theorem dX5_placed_16 : decode cX5_placed 16 = .ok (.goto 7, 3) := by decide +kernel
theorem dX5_placed_19 : decode cX5_placed 19 = .ok (.aload_n 0, 1) := by decide +kernel
theorem dX5_placed_20 : decode cX5_placed 20 = .ok (.getfield 247, 3) := by decide +kernel
theorem dX5_placed_23 : decode cX5_placed 23 = .ok (.ireturn, 1) := by decide +kernel
theorem dX5_trust_0 : decode cX5_trust 0 = .ok (.aload_n 0, 1) := by decide +kernel
theorem dX5_trust_1 : decode cX5_trust 1 = .ok (.iload_n 1, 1) := by decide +kernel
theorem dX5_trust_2 : decode cX5_trust 2 = .ok (.invokevirtual 103, 3) := by decide +kernel
theorem dX5_trust_5 : decode cX5_trust 5 = .ok (.ifCond .ne 9, 3) := by decide +kernel
theorem dX5_trust_8 : decode cX5_trust 8 = .ok (.aload_n 0, 1) := by decide +kernel
theorem dX5_trust_9 : decode cX5_trust 9 = .ok (.iconst (-1), 1) := by decide +kernel
theorem dX5_trust_10 : decode cX5_trust 10 = .ok (.invokevirtual 253, 3) := by decide +kernel
theorem dX5_trust_13 : decode cX5_trust 13 = .ok (.ireturn, 1) := by decide +kernel
theorem dX5_trust_14 : decode cX5_trust 14 = .ok (.aload_n 0, 1) := by decide +kernel
theorem dX5_trust_15 : decode cX5_trust 15 = .ok (.iload_n 1, 1) := by decide +kernel
theorem dX5_trust_16 : decode cX5_trust 16 = .ok (.invokevirtual 150, 3) := by decide +kernel
theorem dX5_trust_19 : decode cX5_trust 19 = .ok (.ifCond .eq 10, 3) := by decide +kernel
theorem dX5_trust_22 : decode cX5_trust 22 = .ok (.aload_n 0, 1) := by decide +kernel
theorem dX5_trust_23 : decode cX5_trust 23 = .ok (.bipush (-6), 2) := by decide +kernel
theorem dX5_trust_25 : decode cX5_trust 25 = .ok (.invokevirtual 253, 3) := by decide +kernel
theorem dX5_trust_28 : decode cX5_trust 28 = .ok (.ireturn, 1) := by decide +kernel
theorem dX5_trust_29 : decode cX5_trust 29 = .ok (.aload_n 0, 1) := by decide +kernel
theorem dX5_trust_30 : decode cX5_trust 30 = .ok (.invokevirtual 142, 3) := by decide +kernel
theorem dX5_trust_33 : decode cX5_trust 33 = .ok (.lstore_n 2, 1) := by decide +kernel
theorem dX5_trust_34 : decode cX5_trust 34 = .ok (.aload_n 0, 1) := by decide +kernel
theorem dX5_trust_35 : decode cX5_trust 35 = .ok (.iload_n 1, 1) := by decide +kernel
theorem dX5_trust_36 : decode cX5_trust 36 = .ok (.invokevirtual 127, 3) := by decide +kernel
theorem dX5_trust_39 : decode cX5_trust 39 = .ok (.ifCond .ne 26, 3) := by decide +kernel
theorem dX5_trust_42 : decode cX5_trust 42 = .ok (.aload_n 0, 1) := by decide +kernel
theorem dX5_trust_43 : decode cX5_trust 43 = .ok (.iload_n 1, 1) := by decide +kernel
theorem dX5_trust_44 : decode cX5_trust 44 = .ok (.aload_n 0, 1) := by decide +kernel
theorem dX5_trust_45 : decode cX5_trust 45 = .ok (.iload_n 1, 1) := by decide +kernel
theorem dX5_trust_46 : decode cX5_trust 46 = .ok (.invokevirtual 106, 3) := by decide +kernel
theorem dX5_trust_49 : decode cX5_trust 49 = .ok (.invokevirtual 109, 3) := by decide +kernel
theorem dX5_trust_52 : decode cX5_trust 52 = .ok (.ifCond .eq 11, 3) := by decide +kernel
theorem dX5_trust_55 : decode cX5_trust 55 = .ok (.aload_n 0, 1) := by decide +kernel
theorem dX5_trust_56 : decode cX5_trust 56 = .ok (.lload_n 2, 1) := by decide +kernel
theorem dX5_trust_57 : decode cX5_trust 57 = .ok (.invokevirtual 146, 3) := by decide +kernel
theorem dX5_trust_60 : decode cX5_trust 60 = .ok (.goto 4, 3) := by decide +kernel
theorem dX5_trust_63 : decode cX5_trust 63 = .ok (.iconst 0, 1) := by decide +kernel
theorem dX5_trust_64 : decode cX5_trust 64 = .ok (.ireturn, 1) := by decide +kernel
theorem dX5_trust_65 : decode cX5_trust 65 = .ok (.iconst 0, 1) := by decide +kernel
theorem dX5_trust_66 : decode cX5_trust 66 = .ok (.istore 4, 2) := by decide +kernel
theorem dX5_trust_68 : decode cX5_trust 68 = .ok (.iconst 0, 1) := by decide +kernel
theorem dX5_trust_69 : decode cX5_trust 69 = .ok (.istore 5, 2) := by decide +kernel
theorem dX5_trust_71 : decode cX5_trust 71 = .ok (.iload 5, 2) := by decide +kernel
theorem dX5_trust_73 : decode cX5_trust 73 = .ok (.iconst 1, 1) := by decide +kernel
theorem dX5_trust_74 : decode cX5_trust 74 = .ok (.aload_n 0, 1) := by decide +kernel
theorem dX5_trust_75 : decode cX5_trust 75 = .ok (.getfield 89, 3) := by decide +kernel
theorem dX5_trust_78 : decode cX5_trust 78 = .ok (.ishl, 1) := by decide +kernel
theorem dX5_trust_79 : decode cX5_trust 79 = .ok (.if_icmp .ge 65, 3) := by decide +kernel
theorem dX5_trust_82 : decode cX5_trust 82 = .ok (.lload_n 2, 1) := by decide +kernel
theorem dX5_trust_83 : decode cX5_trust 83 = .ok (.iload 5, 2) := by decide +kernel
theorem dX5_trust_85 : decode cX5_trust 85 = .ok (.lshr, 1) := by decide +kernel
theorem dX5_trust_86 : decode cX5_trust 86 = .ok (.lconst 1, 1) := by decide +kernel
theorem dX5_trust_87 : decode cX5_trust 87 = .ok (.land, 1) := by decide +kernel
theorem dX5_trust_88 : decode cX5_trust 88 = .ok (.lconst 0, 1) := by decide +kernel
theorem dX5_trust_89 : decode cX5_trust 89 = .ok (.lcmp, 1) := by decide +kernel
theorem dX5_trust_90 : decode cX5_trust 90 = .ok (.ifCond .ne 6, 3) := by decide +kernel
theorem dX5_trust_93 : decode cX5_trust 93 = .ok (.goto 45, 3) := by decide +kernel
theorem dX5_trust_96 : decode cX5_trust 96 = .ok (.iload 4, 2) := by decide +kernel
theorem dX5_trust_98 : decode cX5_trust 98 = .ok (.aload_n 0, 1) := by decide +kernel
theorem dX5_trust_99 : decode cX5_trust 99 = .ok (.iload_n 1, 1) := by decide +kernel
theorem dX5_trust_100 : decode cX5_trust 100 = .ok (.iload 5, 2) := by decide +kernel
theorem dX5_trust_102 : decode cX5_trust 102 = .ok (.iconst 1, 1) := by decide +kernel
theorem dX5_trust_103 : decode cX5_trust 103 = .ok (.invokevirtual 218, 3) := by decide +kernel
theorem dX5_trust_106 : decode cX5_trust 106 = .ok (.ifCond .eq 7, 3) := by decide +kernel
theorem dX5_trust_109 : decode cX5_trust 109 = .ok (.iconst 1, 1) := by decide +kernel
theorem dX5_trust_110 : decode cX5_trust 110 = .ok (.goto 4, 3) := by decide +kernel
theorem dX5_trust_113 : decode cX5_trust 113 = .ok (.iconst 0, 1) := by decide +kernel
theorem dX5_trust_114 : decode cX5_trust 114 = .ok (.iadd, 1) := by decide +kernel
theorem dX5_trust_115 : decode cX5_trust 115 = .ok (.istore 4, 2) := by decide +kernel
theorem dX5_trust_117 : decode cX5_trust 117 = .ok (.iload 4, 2) := by decide +kernel
theorem dX5_trust_119 : decode cX5_trust 119 = .ok (.aload_n 0, 1) := by decide +kernel
theorem dX5_trust_120 : decode cX5_trust 120 = .ok (.iload_n 1, 1) := by decide +kernel
theorem dX5_trust_121 : decode cX5_trust 121 = .ok (.iload 5, 2) := by decide +kernel
theorem dX5_trust_123 : decode cX5_trust 123 = .ok (.iconst 0, 1) := by decide +kernel
theorem dX5_trust_124 : decode cX5_trust 124 = .ok (.invokevirtual 218, 3) := by decide +kernel
theorem dX5_trust_127 : decode cX5_trust 127 = .ok (.ifCond .eq 7, 3) := by decide +kernel
theorem dX5_trust_130 : decode cX5_trust 130 = .ok (.iconst 1, 1) := by decide +kernel
theorem dX5_trust_131 : decode cX5_trust 131 = .ok (.goto 4, 3) := by decide +kernel
theorem dX5_trust_134 : decode cX5_trust 134 = .ok (.iconst 0, 1) := by decide +kernel
theorem dX5_trust_135 : decode cX5_trust 135 = .ok (.isub, 1) := by decide +kernel
theorem dX5_trust_136 : decode cX5_trust 136 = .ok (.istore 4, 2) := by decide +kernel
theorem dX5_trust_138 : decode cX5_trust 138 = .ok (.iinc 5 1, 3) := by decide +kernel
theorem dX5_trust_141 : decode cX5_trust 141 = .ok (.goto (-70), 3) := by decide +kernel
theorem dX5_trust_144 : decode cX5_trust 144 = .ok (.iload 4, 2) := by decide +kernel
theorem dX5_trust_146 : decode cX5_trust 146 = .ok (.ireturn, 1) := by decide +kernel
theorem dX5_witness_0 : decode cX5_witness 0 = .ok (.aload_n 0, 1) := by decide +kernel
theorem dX5_witness_1 : decode cX5_witness 1 = .ok (.getfield 92, 3) := by decide +kernel
theorem dX5_witness_4 : decode cX5_witness 4 = .ok (.ifCond .ne 10, 3) := by decide +kernel
theorem dX5_witness_7 : decode cX5_witness 7 = .ok (.aload_n 0, 1) := by decide +kernel
theorem dX5_witness_8 : decode cX5_witness 8 = .ok (.bipush (-5), 2) := by decide +kernel
theorem dX5_witness_10 : decode cX5_witness 10 = .ok (.invokevirtual 99, 3) := by decide +kernel
theorem dX5_witness_13 : decode cX5_witness 13 = .ok (.ireturn, 1) := by decide +kernel
theorem dX5_witness_14 : decode cX5_witness 14 = .ok (.iconst 0, 1) := by decide +kernel
theorem dX5_witness_15 : decode cX5_witness 15 = .ok (.istore_n 1, 1) := by decide +kernel
theorem dX5_witness_16 : decode cX5_witness 16 = .ok (.iconst (-1), 1) := by decide +kernel
theorem dX5_witness_17 : decode cX5_witness 17 = .ok (.istore_n 2, 1) := by decide +kernel
theorem dX5_witness_18 : decode cX5_witness 18 = .ok (.iconst 0, 1) := by decide +kernel
theorem dX5_witness_19 : decode cX5_witness 19 = .ok (.istore_n 3, 1) := by decide +kernel
theorem dX5_witness_20 : decode cX5_witness 20 = .ok (.iload_n 3, 1) := by decide +kernel
theorem dX5_witness_21 : decode cX5_witness 21 = .ok (.aload_n 0, 1) := by decide +kernel
theorem dX5_witness_22 : decode cX5_witness 22 = .ok (.getfield 92, 3) := by decide +kernel
theorem dX5_witness_25 : decode cX5_witness 25 = .ok (.if_icmp .ge 35, 3) := by decide +kernel
theorem dX5_witness_28 : decode cX5_witness 28 = .ok (.aload_n 0, 1) := by decide +kernel
theorem dX5_witness_29 : decode cX5_witness 29 = .ok (.aload_n 0, 1) := by decide +kernel
theorem dX5_witness_30 : decode cX5_witness 30 = .ok (.iconst (-1), 1) := by decide +kernel
theorem dX5_witness_31 : decode cX5_witness 31 = .ok (.iload_n 3, 1) := by decide +kernel
theorem dX5_witness_32 : decode cX5_witness 32 = .ok (.invokevirtual 134, 3) := by decide +kernel
theorem dX5_witness_35 : decode cX5_witness 35 = .ok (.invokevirtual 146, 3) := by decide +kernel
theorem dX5_witness_38 : decode cX5_witness 38 = .ok (.istore 4, 2) := by decide +kernel
theorem dX5_witness_40 : decode cX5_witness 40 = .ok (.iload 4, 2) := by decide +kernel
theorem dX5_witness_42 : decode cX5_witness 42 = .ok (.iload_n 2, 1) := by decide +kernel
theorem dX5_witness_43 : decode cX5_witness 43 = .ok (.if_icmp .gt 6, 3) := by decide +kernel
theorem dX5_witness_46 : decode cX5_witness 46 = .ok (.goto 8, 3) := by decide +kernel
theorem dX5_witness_49 : decode cX5_witness 49 = .ok (.iload 4, 2) := by decide +kernel
theorem dX5_witness_51 : decode cX5_witness 51 = .ok (.istore_n 2, 1) := by decide +kernel
theorem dX5_witness_52 : decode cX5_witness 52 = .ok (.iload_n 3, 1) := by decide +kernel
theorem dX5_witness_53 : decode cX5_witness 53 = .ok (.istore_n 1, 1) := by decide +kernel
theorem dX5_witness_54 : decode cX5_witness 54 = .ok (.iinc 3 1, 3) := by decide +kernel
theorem dX5_witness_57 : decode cX5_witness 57 = .ok (.goto (-37), 3) := by decide +kernel
theorem dX5_witness_60 : decode cX5_witness 60 = .ok (.iload_n 1, 1) := by decide +kernel
theorem dX5_witness_61 : decode cX5_witness 61 = .ok (.ireturn, 1) := by decide +kernel
theorem dX5_judge_0 : decode cX5_judge 0 = .ok (.aload_n 0, 1) := by decide +kernel
theorem dX5_judge_1 : decode cX5_judge 1 = .ok (.iload_n 1, 1) := by decide +kernel
theorem dX5_judge_2 : decode cX5_judge 2 = .ok (.invokevirtual 208, 3) := by decide +kernel
theorem dX5_judge_5 : decode cX5_judge 5 = .ok (.istore_n 3, 1) := by decide +kernel
theorem dX5_judge_6 : decode cX5_judge 6 = .ok (.iload_n 3, 1) := by decide +kernel
theorem dX5_judge_7 : decode cX5_judge 7 = .ok (.ifCond .eq 9, 3) := by decide +kernel
theorem dX5_judge_10 : decode cX5_judge 10 = .ok (.aload_n 0, 1) := by decide +kernel
theorem dX5_judge_11 : decode cX5_judge 11 = .ok (.iload_n 3, 1) := by decide +kernel
theorem dX5_judge_12 : decode cX5_judge 12 = .ok (.invokevirtual 99, 3) := by decide +kernel
theorem dX5_judge_15 : decode cX5_judge 15 = .ok (.ireturn, 1) := by decide +kernel
theorem dX5_judge_16 : decode cX5_judge 16 = .ok (.iload_n 2, 1) := by decide +kernel
theorem dX5_judge_17 : decode cX5_judge 17 = .ok (.ifCond .ge 10, 3) := by decide +kernel
theorem dX5_judge_20 : decode cX5_judge 20 = .ok (.aload_n 0, 1) := by decide +kernel
theorem dX5_judge_21 : decode cX5_judge 21 = .ok (.bipush (-4), 2) := by decide +kernel
theorem dX5_judge_23 : decode cX5_judge 23 = .ok (.invokevirtual 99, 3) := by decide +kernel
theorem dX5_judge_26 : decode cX5_judge 26 = .ok (.ireturn, 1) := by decide +kernel
theorem dX5_judge_27 : decode cX5_judge 27 = .ok (.iload_n 2, 1) := by decide +kernel
theorem dX5_judge_28 : decode cX5_judge 28 = .ok (.aload_n 0, 1) := by decide +kernel
theorem dX5_judge_29 : decode cX5_judge 29 = .ok (.getfield 57, 3) := by decide +kernel
theorem dX5_judge_32 : decode cX5_judge 32 = .ok (.iload_n 1, 1) := by decide +kernel
theorem dX5_judge_33 : decode cX5_judge 33 = .ok (.iaload, 1) := by decide +kernel
theorem dX5_judge_34 : decode cX5_judge 34 = .ok (.if_icmp .le 10, 3) := by decide +kernel
theorem dX5_judge_37 : decode cX5_judge 37 = .ok (.aload_n 0, 1) := by decide +kernel
theorem dX5_judge_38 : decode cX5_judge 38 = .ok (.bipush (-5), 2) := by decide +kernel
theorem dX5_judge_40 : decode cX5_judge 40 = .ok (.invokevirtual 99, 3) := by decide +kernel
theorem dX5_judge_43 : decode cX5_judge 43 = .ok (.ireturn, 1) := by decide +kernel
theorem dX5_judge_44 : decode cX5_judge 44 = .ok (.iload_n 2, 1) := by decide +kernel
theorem dX5_judge_45 : decode cX5_judge 45 = .ok (.bipush 24, 2) := by decide +kernel
theorem dX5_judge_47 : decode cX5_judge 47 = .ok (.if_icmp .le 10, 3) := by decide +kernel
theorem dX5_judge_50 : decode cX5_judge 50 = .ok (.aload_n 0, 1) := by decide +kernel
theorem dX5_judge_51 : decode cX5_judge 51 = .ok (.bipush (-6), 2) := by decide +kernel
theorem dX5_judge_53 : decode cX5_judge 53 = .ok (.invokevirtual 99, 3) := by decide +kernel
theorem dX5_judge_56 : decode cX5_judge 56 = .ok (.ireturn, 1) := by decide +kernel
theorem dX5_judge_57 : decode cX5_judge 57 = .ok (.aload_n 0, 1) := by decide +kernel
theorem dX5_judge_58 : decode cX5_judge 58 = .ok (.getfield 118, 3) := by decide +kernel
theorem dX5_judge_61 : decode cX5_judge 61 = .ok (.istore 4, 2) := by decide +kernel
theorem dX5_judge_63 : decode cX5_judge 63 = .ok (.iconst (-1), 1) := by decide +kernel
theorem dX5_judge_64 : decode cX5_judge 64 = .ok (.istore 5, 2) := by decide +kernel
theorem dX5_judge_66 : decode cX5_judge 66 = .ok (.iconst 0, 1) := by decide +kernel
theorem dX5_judge_67 : decode cX5_judge 67 = .ok (.istore 6, 2) := by decide +kernel
theorem dX5_judge_69 : decode cX5_judge 69 = .ok (.iload 6, 2) := by decide +kernel
theorem dX5_judge_71 : decode cX5_judge 71 = .ok (.iload_n 2, 1) := by decide +kernel
theorem dX5_judge_72 : decode cX5_judge 72 = .ok (.if_icmp .ge 128, 3) := by decide +kernel
theorem dX5_judge_75 : decode cX5_judge 75 = .ok (.iload 5, 2) := by decide +kernel
theorem dX5_judge_77 : decode cX5_judge 77 = .ok (.iconst (-1), 1) := by decide +kernel
theorem dX5_judge_78 : decode cX5_judge 78 = .ok (.if_icmp .ne 122, 3) := by decide +kernel
theorem dX5_judge_81 : decode cX5_judge 81 = .ok (.aload_n 0, 1) := by decide +kernel
theorem dX5_judge_82 : decode cX5_judge 82 = .ok (.iload_n 1, 1) := by decide +kernel
theorem dX5_judge_83 : decode cX5_judge 83 = .ok (.iload 6, 2) := by decide +kernel
theorem dX5_judge_85 : decode cX5_judge 85 = .ok (.invokevirtual 241, 3) := by decide +kernel
theorem dX5_judge_88 : decode cX5_judge 88 = .ok (.istore 7, 2) := by decide +kernel
theorem dX5_judge_90 : decode cX5_judge 90 = .ok (.iload 7, 2) := by decide +kernel
theorem dX5_judge_92 : decode cX5_judge 92 = .ok (.bipush 100, 2) := by decide +kernel
theorem dX5_judge_94 : decode cX5_judge 94 = .ok (.idiv, 1) := by decide +kernel
theorem dX5_judge_95 : decode cX5_judge 95 = .ok (.istore 8, 2) := by decide +kernel
theorem dX5_judge_97 : decode cX5_judge 97 = .ok (.iload 7, 2) := by decide +kernel
theorem dX5_judge_99 : decode cX5_judge 99 = .ok (.bipush 10, 2) := by decide +kernel
theorem dX5_judge_101 : decode cX5_judge 101 = .ok (.idiv, 1) := by decide +kernel
theorem dX5_judge_102 : decode cX5_judge 102 = .ok (.bipush 10, 2) := by decide +kernel
theorem dX5_judge_104 : decode cX5_judge 104 = .ok (.irem, 1) := by decide +kernel
theorem dX5_judge_105 : decode cX5_judge 105 = .ok (.istore 9, 2) := by decide +kernel
theorem dX5_judge_107 : decode cX5_judge 107 = .ok (.iload 7, 2) := by decide +kernel
theorem dX5_judge_109 : decode cX5_judge 109 = .ok (.bipush 10, 2) := by decide +kernel
theorem dX5_judge_111 : decode cX5_judge 111 = .ok (.irem, 1) := by decide +kernel
theorem dX5_judge_112 : decode cX5_judge 112 = .ok (.istore 10, 2) := by decide +kernel
theorem dX5_judge_114 : decode cX5_judge 114 = .ok (.iload 7, 2) := by decide +kernel
theorem dX5_judge_116 : decode cX5_judge 116 = .ok (.ifCond .lt 40, 3) := by decide +kernel
theorem dX5_judge_119 : decode cX5_judge 119 = .ok (.aload_n 0, 1) := by decide +kernel
theorem dX5_judge_120 : decode cX5_judge 120 = .ok (.iload 8, 2) := by decide +kernel
theorem dX5_judge_122 : decode cX5_judge 122 = .ok (.invokevirtual 103, 3) := by decide +kernel
theorem dX5_judge_125 : decode cX5_judge 125 = .ok (.ifCond .eq 31, 3) := by decide +kernel
theorem dX5_judge_128 : decode cX5_judge 128 = .ok (.aload_n 0, 1) := by decide +kernel
theorem dX5_judge_129 : decode cX5_judge 129 = .ok (.iload 9, 2) := by decide +kernel
theorem dX5_judge_131 : decode cX5_judge 131 = .ok (.invokevirtual 121, 3) := by decide +kernel
theorem dX5_judge_134 : decode cX5_judge 134 = .ok (.ifCond .eq 22, 3) := by decide +kernel
theorem dX5_judge_137 : decode cX5_judge 137 = .ok (.iload 10, 2) := by decide +kernel
theorem dX5_judge_139 : decode cX5_judge 139 = .ok (.iconst 2, 1) := by decide +kernel
theorem dX5_judge_140 : decode cX5_judge 140 = .ok (.if_icmp .ge 16, 3) := by decide +kernel
theorem dX5_judge_143 : decode cX5_judge 143 = .ok (.aload_n 0, 1) := by decide +kernel
theorem dX5_judge_144 : decode cX5_judge 144 = .ok (.iload 8, 2) := by decide +kernel
theorem dX5_judge_146 : decode cX5_judge 146 = .ok (.invokevirtual 150, 3) := by decide +kernel
theorem dX5_judge_149 : decode cX5_judge 149 = .ok (.ifCond .ne 7, 3) := by decide +kernel
theorem dX5_judge_152 : decode cX5_judge 152 = .ok (.iconst 1, 1) := by decide +kernel
theorem dX5_judge_153 : decode cX5_judge 153 = .ok (.goto 4, 3) := by decide +kernel
theorem dX5_judge_156 : decode cX5_judge 156 = .ok (.iconst 0, 1) := by decide +kernel
theorem dX5_judge_157 : decode cX5_judge 157 = .ok (.istore 11, 2) := by decide +kernel
theorem dX5_judge_159 : decode cX5_judge 159 = .ok (.iload 11, 2) := by decide +kernel
theorem dX5_judge_161 : decode cX5_judge 161 = .ok (.ifCond .eq 29, 3) := by decide +kernel
theorem dX5_judge_164 : decode cX5_judge 164 = .ok (.aload_n 0, 1) := by decide +kernel
theorem dX5_judge_165 : decode cX5_judge 165 = .ok (.iload 8, 2) := by decide +kernel
theorem dX5_judge_167 : decode cX5_judge 167 = .ok (.iload 9, 2) := by decide +kernel
theorem dX5_judge_169 : decode cX5_judge 169 = .ok (.iload 10, 2) := by decide +kernel
theorem dX5_judge_171 : decode cX5_judge 171 = .ok (.invokevirtual 153, 3) := by decide +kernel
theorem dX5_judge_174 : decode cX5_judge 174 = .ok (.ifCond .le 16, 3) := by decide +kernel
theorem dX5_judge_177 : decode cX5_judge 177 = .ok (.aload_n 0, 1) := by decide +kernel
theorem dX5_judge_178 : decode cX5_judge 178 = .ok (.iload 8, 2) := by decide +kernel
theorem dX5_judge_180 : decode cX5_judge 180 = .ok (.iload 9, 2) := by decide +kernel
theorem dX5_judge_182 : decode cX5_judge 182 = .ok (.iload 10, 2) := by decide +kernel
theorem dX5_judge_184 : decode cX5_judge 184 = .ok (.invokevirtual 138, 3) := by decide +kernel
theorem dX5_judge_187 : decode cX5_judge 187 = .ok (.goto 7, 3) := by decide +kernel
theorem dX5_judge_190 : decode cX5_judge 190 = .ok (.iload 6, 2) := by decide +kernel
theorem dX5_judge_192 : decode cX5_judge 192 = .ok (.istore 5, 2) := by decide +kernel
theorem dX5_judge_194 : decode cX5_judge 194 = .ok (.iinc 6 1, 3) := by decide +kernel
theorem dX5_judge_197 : decode cX5_judge 197 = .ok (.goto (-128), 3) := by decide +kernel
theorem dX5_judge_200 : decode cX5_judge 200 = .ok (.aload_n 0, 1) := by decide +kernel
theorem dX5_judge_201 : decode cX5_judge 201 = .ok (.iload 4, 2) := by decide +kernel
theorem dX5_judge_203 : decode cX5_judge 203 = .ok (.putfield 118, 3) := by decide +kernel
theorem dX5_judge_206 : decode cX5_judge 206 = .ok (.iload 5, 2) := by decide +kernel
theorem dX5_judge_208 : decode cX5_judge 208 = .ok (.ireturn, 1) := by decide +kernel
theorem dX5_sunset_0 : decode cX5_sunset 0 = .ok (.aload_n 0, 1) := by decide +kernel
theorem dX5_sunset_1 : decode cX5_sunset 1 = .ok (.aload_n 0, 1) := by decide +kernel
theorem dX5_sunset_2 : decode cX5_sunset 2 = .ok (.invokevirtual 142, 3) := by decide +kernel
theorem dX5_sunset_5 : decode cX5_sunset 5 = .ok (.putfield 25, 3) := by decide +kernel
theorem dX5_sunset_8 : decode cX5_sunset 8 = .ok (.aload_n 0, 1) := by decide +kernel
theorem dX5_sunset_9 : decode cX5_sunset 9 = .ok (.iconst 0, 1) := by decide +kernel
theorem dX5_sunset_10 : decode cX5_sunset 10 = .ok (.putfield 118, 3) := by decide +kernel
theorem dX5_sunset_13 : decode cX5_sunset 13 = .ok (.aload_n 0, 1) := by decide +kernel
theorem dX5_sunset_14 : decode cX5_sunset 14 = .ok (.dup, 1) := by decide +kernel
theorem dX5_sunset_15 : decode cX5_sunset 15 = .ok (.getfield 205, 3) := by decide +kernel
theorem dX5_sunset_18 : decode cX5_sunset 18 = .ok (.iconst 1, 1) := by decide +kernel
theorem dX5_sunset_19 : decode cX5_sunset 19 = .ok (.iadd, 1) := by decide +kernel
theorem dX5_sunset_20 : decode cX5_sunset 20 = .ok (.putfield 205, 3) := by decide +kernel
theorem dX5_sunset_23 : decode cX5_sunset 23 = .ok (.aload_n 0, 1) := by decide +kernel
theorem dX5_sunset_24 : decode cX5_sunset 24 = .ok (.aload_n 0, 1) := by decide +kernel
theorem dX5_sunset_25 : decode cX5_sunset 25 = .ok (.getfield 25, 3) := by decide +kernel
theorem dX5_sunset_28 : decode cX5_sunset 28 = .ok (.invokevirtual 146, 3) := by decide +kernel
theorem dX5_sunset_31 : decode cX5_sunset 31 = .ok (.ireturn, 1) := by decide +kernel
theorem dX5_lot_0 : decode cX5_lot 0 = .ok (.aload_n 0, 1) := by decide +kernel
theorem dX5_lot_1 : decode cX5_lot 1 = .ok (.aload_n 0, 1) := by decide +kernel
theorem dX5_lot_2 : decode cX5_lot 2 = .ok (.getfield 16, 3) := by decide +kernel
theorem dX5_lot_5 : decode cX5_lot 5 = .ok (.ldc_w 256, 3) := by decide +kernel
theorem dX5_lot_8 : decode cX5_lot 8 = .ok (.imul, 1) := by decide +kernel
theorem dX5_lot_9 : decode cX5_lot 9 = .ok (.sipush 12345, 3) := by decide +kernel
theorem dX5_lot_12 : decode cX5_lot 12 = .ok (.iadd, 1) := by decide +kernel
theorem dX5_lot_13 : decode cX5_lot 13 = .ok (.putfield 16, 3) := by decide +kernel
theorem dX5_lot_16 : decode cX5_lot 16 = .ok (.aload_n 0, 1) := by decide +kernel
theorem dX5_lot_17 : decode cX5_lot 17 = .ok (.getfield 16, 3) := by decide +kernel
theorem dX5_lot_20 : decode cX5_lot 20 = .ok (.bipush 16, 2) := by decide +kernel
theorem dX5_lot_22 : decode cX5_lot 22 = .ok (.iushr, 1) := by decide +kernel
theorem dX5_lot_23 : decode cX5_lot 23 = .ok (.iload_n 1, 1) := by decide +kernel
theorem dX5_lot_24 : decode cX5_lot 24 = .ok (.irem, 1) := by decide +kernel
theorem dX5_lot_25 : decode cX5_lot 25 = .ok (.ireturn, 1) := by decide +kernel
theorem dX5_draw_0 : decode cX5_draw 0 = .ok (.aload_n 0, 1) := by decide +kernel
theorem dX5_draw_1 : decode cX5_draw 1 = .ok (.invokevirtual 142, 3) := by decide +kernel
theorem dX5_draw_4 : decode cX5_draw 4 = .ok (.lstore_n 1, 1) := by decide +kernel
theorem dX5_draw_5 : decode cX5_draw 5 = .ok (.aload_n 0, 1) := by decide +kernel
theorem dX5_draw_6 : decode cX5_draw 6 = .ok (.lload_n 1, 1) := by decide +kernel
theorem dX5_draw_7 : decode cX5_draw 7 = .ok (.invokevirtual 146, 3) := by decide +kernel
theorem dX5_draw_10 : decode cX5_draw 10 = .ok (.istore_n 3, 1) := by decide +kernel
theorem dX5_draw_11 : decode cX5_draw 11 = .ok (.iload_n 3, 1) := by decide +kernel
theorem dX5_draw_12 : decode cX5_draw 12 = .ok (.ifCond .ne 5, 3) := by decide +kernel
theorem dX5_draw_15 : decode cX5_draw 15 = .ok (.iconst 0, 1) := by decide +kernel
theorem dX5_draw_16 : decode cX5_draw 16 = .ok (.ireturn, 1) := by decide +kernel
theorem dX5_draw_17 : decode cX5_draw 17 = .ok (.aload_n 0, 1) := by decide +kernel
theorem dX5_draw_18 : decode cX5_draw 18 = .ok (.iload_n 3, 1) := by decide +kernel
theorem dX5_draw_19 : decode cX5_draw 19 = .ok (.invokevirtual 257, 3) := by decide +kernel
theorem dX5_draw_22 : decode cX5_draw 22 = .ok (.istore 4, 2) := by decide +kernel
theorem dX5_draw_24 : decode cX5_draw 24 = .ok (.iconst 0, 1) := by decide +kernel
theorem dX5_draw_25 : decode cX5_draw 25 = .ok (.istore 5, 2) := by decide +kernel
theorem dX5_draw_27 : decode cX5_draw 27 = .ok (.iload 4, 2) := by decide +kernel
theorem dX5_draw_29 : decode cX5_draw 29 = .ok (.ifCond .gt 14, 3) := by decide +kernel
theorem dX5_draw_32 : decode cX5_draw 32 = .ok (.lload_n 1, 1) := by decide +kernel
theorem dX5_draw_33 : decode cX5_draw 33 = .ok (.iload 5, 2) := by decide +kernel
theorem dX5_draw_35 : decode cX5_draw 35 = .ok (.lshr, 1) := by decide +kernel
theorem dX5_draw_36 : decode cX5_draw 36 = .ok (.lconst 1, 1) := by decide +kernel
theorem dX5_draw_37 : decode cX5_draw 37 = .ok (.land, 1) := by decide +kernel
theorem dX5_draw_38 : decode cX5_draw 38 = .ok (.lconst 0, 1) := by decide +kernel
theorem dX5_draw_39 : decode cX5_draw 39 = .ok (.lcmp, 1) := by decide +kernel
theorem dX5_draw_40 : decode cX5_draw 40 = .ok (.ifCond .ne 23, 3) := by decide +kernel
theorem dX5_draw_43 : decode cX5_draw 43 = .ok (.lload_n 1, 1) := by decide +kernel
theorem dX5_draw_44 : decode cX5_draw 44 = .ok (.iload 5, 2) := by decide +kernel
theorem dX5_draw_46 : decode cX5_draw 46 = .ok (.lshr, 1) := by decide +kernel
theorem dX5_draw_47 : decode cX5_draw 47 = .ok (.lconst 1, 1) := by decide +kernel
theorem dX5_draw_48 : decode cX5_draw 48 = .ok (.land, 1) := by decide +kernel
theorem dX5_draw_49 : decode cX5_draw 49 = .ok (.lconst 1, 1) := by decide +kernel
theorem dX5_draw_50 : decode cX5_draw 50 = .ok (.lcmp, 1) := by decide +kernel
theorem dX5_draw_51 : decode cX5_draw 51 = .ok (.ifCond .ne 6, 3) := by decide +kernel
theorem dX5_draw_54 : decode cX5_draw 54 = .ok (.iinc 4 (-1), 3) := by decide +kernel
theorem dX5_draw_57 : decode cX5_draw 57 = .ok (.iinc 5 1, 3) := by decide +kernel
theorem dX5_draw_60 : decode cX5_draw 60 = .ok (.goto (-33), 3) := by decide +kernel
theorem dX5_draw_63 : decode cX5_draw 63 = .ok (.aload_n 0, 1) := by decide +kernel
theorem dX5_draw_64 : decode cX5_draw 64 = .ok (.iload 5, 2) := by decide +kernel
theorem dX5_draw_66 : decode cX5_draw 66 = .ok (.putfield 19, 3) := by decide +kernel
theorem dX5_draw_69 : decode cX5_draw 69 = .ok (.iload_n 3, 1) := by decide +kernel
theorem dX5_draw_70 : decode cX5_draw 70 = .ok (.ireturn, 1) := by decide +kernel
theorem dX5_ask_0 : decode cX5_ask 0 = .ok (.aload_n 0, 1) := by decide +kernel
theorem dX5_ask_1 : decode cX5_ask 1 = .ok (.iload_n 1, 1) := by decide +kernel
theorem dX5_ask_2 : decode cX5_ask 2 = .ok (.invokevirtual 103, 3) := by decide +kernel
theorem dX5_ask_5 : decode cX5_ask 5 = .ok (.ifCond .eq 11, 3) := by decide +kernel
theorem dX5_ask_8 : decode cX5_ask 8 = .ok (.aload_n 0, 1) := by decide +kernel
theorem dX5_ask_9 : decode cX5_ask 9 = .ok (.iload_n 2, 1) := by decide +kernel
theorem dX5_ask_10 : decode cX5_ask 10 = .ok (.invokevirtual 121, 3) := by decide +kernel
theorem dX5_ask_13 : decode cX5_ask 13 = .ok (.ifCond .ne 9, 3) := by decide +kernel
theorem dX5_ask_16 : decode cX5_ask 16 = .ok (.aload_n 0, 1) := by decide +kernel
theorem dX5_ask_17 : decode cX5_ask 17 = .ok (.iconst (-1), 1) := by decide +kernel
theorem dX5_ask_18 : decode cX5_ask 18 = .ok (.invokevirtual 99, 3) := by decide +kernel
theorem dX5_ask_21 : decode cX5_ask 21 = .ok (.ireturn, 1) := by decide +kernel
theorem dX5_ask_22 : decode cX5_ask 22 = .ok (.aload_n 0, 1) := by decide +kernel
theorem dX5_ask_23 : decode cX5_ask 23 = .ok (.iload_n 1, 1) := by decide +kernel
theorem dX5_ask_24 : decode cX5_ask 24 = .ok (.invokevirtual 150, 3) := by decide +kernel
theorem dX5_ask_27 : decode cX5_ask 27 = .ok (.ifCond .ne 11, 3) := by decide +kernel
theorem dX5_ask_30 : decode cX5_ask 30 = .ok (.aload_n 0, 1) := by decide +kernel
theorem dX5_ask_31 : decode cX5_ask 31 = .ok (.getfield 19, 3) := by decide +kernel
theorem dX5_ask_34 : decode cX5_ask 34 = .ok (.iconst (-1), 1) := by decide +kernel
theorem dX5_ask_35 : decode cX5_ask 35 = .ok (.if_icmp .ne 10, 3) := by decide +kernel
theorem dX5_ask_38 : decode cX5_ask 38 = .ok (.aload_n 0, 1) := by decide +kernel
theorem dX5_ask_39 : decode cX5_ask 39 = .ok (.bipush (-6), 2) := by decide +kernel
theorem dX5_ask_41 : decode cX5_ask 41 = .ok (.invokevirtual 99, 3) := by decide +kernel
theorem dX5_ask_44 : decode cX5_ask 44 = .ok (.ireturn, 1) := by decide +kernel
theorem dX5_ask_45 : decode cX5_ask 45 = .ok (.aload_n 0, 1) := by decide +kernel
theorem dX5_ask_46 : decode cX5_ask 46 = .ok (.getfield 16, 3) := by decide +kernel
theorem dX5_ask_49 : decode cX5_ask 49 = .ok (.istore_n 3, 1) := by decide +kernel
theorem dX5_ask_50 : decode cX5_ask 50 = .ok (.aload_n 0, 1) := by decide +kernel
theorem dX5_ask_51 : decode cX5_ask 51 = .ok (.iload_n 1, 1) := by decide +kernel
theorem dX5_ask_52 : decode cX5_ask 52 = .ok (.invokevirtual 127, 3) := by decide +kernel
theorem dX5_ask_55 : decode cX5_ask 55 = .ok (.ifCond .ne 18, 3) := by decide +kernel
theorem dX5_ask_58 : decode cX5_ask 58 = .ok (.aload_n 0, 1) := by decide +kernel
theorem dX5_ask_59 : decode cX5_ask 59 = .ok (.iload_n 1, 1) := by decide +kernel
theorem dX5_ask_60 : decode cX5_ask 60 = .ok (.aload_n 0, 1) := by decide +kernel
theorem dX5_ask_61 : decode cX5_ask 61 = .ok (.iload_n 1, 1) := by decide +kernel
theorem dX5_ask_62 : decode cX5_ask 62 = .ok (.invokevirtual 106, 3) := by decide +kernel
theorem dX5_ask_65 : decode cX5_ask 65 = .ok (.invokevirtual 109, 3) := by decide +kernel
theorem dX5_ask_68 : decode cX5_ask 68 = .ok (.istore 4, 2) := by decide +kernel
theorem dX5_ask_70 : decode cX5_ask 70 = .ok (.goto 72, 3) := by decide +kernel
theorem dX5_ask_73 : decode cX5_ask 73 = .ok (.aload_n 0, 1) := by decide +kernel
theorem dX5_ask_74 : decode cX5_ask 74 = .ok (.iload_n 1, 1) := by decide +kernel
theorem dX5_ask_75 : decode cX5_ask 75 = .ok (.aload_n 0, 1) := by decide +kernel
theorem dX5_ask_76 : decode cX5_ask 76 = .ok (.getfield 19, 3) := by decide +kernel
theorem dX5_ask_79 : decode cX5_ask 79 = .ok (.iconst 1, 1) := by decide +kernel
theorem dX5_ask_80 : decode cX5_ask 80 = .ok (.invokevirtual 218, 3) := by decide +kernel
theorem dX5_ask_83 : decode cX5_ask 83 = .ok (.istore 5, 2) := by decide +kernel
theorem dX5_ask_85 : decode cX5_ask 85 = .ok (.aload_n 0, 1) := by decide +kernel
theorem dX5_ask_86 : decode cX5_ask 86 = .ok (.iload_n 1, 1) := by decide +kernel
theorem dX5_ask_87 : decode cX5_ask 87 = .ok (.aload_n 0, 1) := by decide +kernel
theorem dX5_ask_88 : decode cX5_ask 88 = .ok (.getfield 19, 3) := by decide +kernel
theorem dX5_ask_91 : decode cX5_ask 91 = .ok (.iconst 0, 1) := by decide +kernel
theorem dX5_ask_92 : decode cX5_ask 92 = .ok (.invokevirtual 218, 3) := by decide +kernel
theorem dX5_ask_95 : decode cX5_ask 95 = .ok (.istore 6, 2) := by decide +kernel
theorem dX5_ask_97 : decode cX5_ask 97 = .ok (.iload 5, 2) := by decide +kernel
theorem dX5_ask_99 : decode cX5_ask 99 = .ok (.ifCond .ne 15, 3) := by decide +kernel
theorem dX5_ask_102 : decode cX5_ask 102 = .ok (.iload 6, 2) := by decide +kernel
theorem dX5_ask_104 : decode cX5_ask 104 = .ok (.ifCond .ne 10, 3) := by decide +kernel
theorem dX5_ask_107 : decode cX5_ask 107 = .ok (.aload_n 0, 1) := by decide +kernel
theorem dX5_ask_108 : decode cX5_ask 108 = .ok (.bipush (-6), 2) := by decide +kernel
theorem dX5_ask_110 : decode cX5_ask 110 = .ok (.invokevirtual 99, 3) := by decide +kernel
theorem dX5_ask_113 : decode cX5_ask 113 = .ok (.ireturn, 1) := by decide +kernel
theorem dX5_ask_114 : decode cX5_ask 114 = .ok (.iload 5, 2) := by decide +kernel
theorem dX5_ask_116 : decode cX5_ask 116 = .ok (.iload 6, 2) := by decide +kernel
theorem dX5_ask_118 : decode cX5_ask 118 = .ok (.if_icmp .eq 8, 3) := by decide +kernel
theorem dX5_ask_121 : decode cX5_ask 121 = .ok (.iload 5, 2) := by decide +kernel
theorem dX5_ask_123 : decode cX5_ask 123 = .ok (.goto 17, 3) := by decide +kernel
theorem dX5_ask_126 : decode cX5_ask 126 = .ok (.aload_n 0, 1) := by decide +kernel
theorem dX5_ask_127 : decode cX5_ask 127 = .ok (.iconst 2, 1) := by decide +kernel
theorem dX5_ask_128 : decode cX5_ask 128 = .ok (.invokevirtual 257, 3) := by decide +kernel
theorem dX5_ask_131 : decode cX5_ask 131 = .ok (.iconst 1, 1) := by decide +kernel
theorem dX5_ask_132 : decode cX5_ask 132 = .ok (.if_icmp .ne 7, 3) := by decide +kernel
theorem dX5_ask_135 : decode cX5_ask 135 = .ok (.iconst 1, 1) := by decide +kernel
theorem dX5_ask_136 : decode cX5_ask 136 = .ok (.goto 4, 3) := by decide +kernel
theorem dX5_ask_139 : decode cX5_ask 139 = .ok (.iconst 0, 1) := by decide +kernel
theorem dX5_ask_140 : decode cX5_ask 140 = .ok (.istore 4, 2) := by decide +kernel
theorem dX5_ask_142 : decode cX5_ask 142 = .ok (.aload_n 0, 1) := by decide +kernel
theorem dX5_ask_143 : decode cX5_ask 143 = .ok (.getfield 19, 3) := by decide +kernel
theorem dX5_ask_146 : decode cX5_ask 146 = .ok (.iload_n 2, 1) := by decide +kernel
theorem dX5_ask_147 : decode cX5_ask 147 = .ok (.ishr, 1) := by decide +kernel
theorem dX5_ask_148 : decode cX5_ask 148 = .ok (.iconst 1, 1) := by decide +kernel
theorem dX5_ask_149 : decode cX5_ask 149 = .ok (.iand, 1) := by decide +kernel
theorem dX5_ask_150 : decode cX5_ask 150 = .ok (.iconst 1, 1) := by decide +kernel
theorem dX5_ask_151 : decode cX5_ask 151 = .ok (.if_icmp .ne 7, 3) := by decide +kernel
theorem dX5_ask_154 : decode cX5_ask 154 = .ok (.iconst 1, 1) := by decide +kernel
theorem dX5_ask_155 : decode cX5_ask 155 = .ok (.goto 4, 3) := by decide +kernel
theorem dX5_ask_158 : decode cX5_ask 158 = .ok (.iconst 0, 1) := by decide +kernel
theorem dX5_ask_159 : decode cX5_ask 159 = .ok (.iload 4, 2) := by decide +kernel
theorem dX5_ask_161 : decode cX5_ask 161 = .ok (.if_icmp .ne 7, 3) := by decide +kernel
theorem dX5_ask_164 : decode cX5_ask 164 = .ok (.iconst 1, 1) := by decide +kernel
theorem dX5_ask_165 : decode cX5_ask 165 = .ok (.goto 4, 3) := by decide +kernel
theorem dX5_ask_168 : decode cX5_ask 168 = .ok (.iconst 0, 1) := by decide +kernel
theorem dX5_ask_169 : decode cX5_ask 169 = .ok (.istore 5, 2) := by decide +kernel
theorem dX5_ask_171 : decode cX5_ask 171 = .ok (.aload_n 0, 1) := by decide +kernel
theorem dX5_ask_172 : decode cX5_ask 172 = .ok (.iload_n 1, 1) := by decide +kernel
theorem dX5_ask_173 : decode cX5_ask 173 = .ok (.iload_n 2, 1) := by decide +kernel
theorem dX5_ask_174 : decode cX5_ask 174 = .ok (.iload 5, 2) := by decide +kernel
theorem dX5_ask_176 : decode cX5_ask 176 = .ok (.invokevirtual 153, 3) := by decide +kernel
theorem dX5_ask_179 : decode cX5_ask 179 = .ok (.ifCond .ne 15, 3) := by decide +kernel
theorem dX5_ask_182 : decode cX5_ask 182 = .ok (.aload_n 0, 1) := by decide +kernel
theorem dX5_ask_183 : decode cX5_ask 183 = .ok (.iload_n 3, 1) := by decide +kernel
theorem dX5_ask_184 : decode cX5_ask 184 = .ok (.putfield 16, 3) := by decide +kernel
theorem dX5_ask_187 : decode cX5_ask 187 = .ok (.aload_n 0, 1) := by decide +kernel
theorem dX5_ask_188 : decode cX5_ask 188 = .ok (.bipush (-6), 2) := by decide +kernel
theorem dX5_ask_190 : decode cX5_ask 190 = .ok (.invokevirtual 99, 3) := by decide +kernel
theorem dX5_ask_193 : decode cX5_ask 193 = .ok (.ireturn, 1) := by decide +kernel
theorem dX5_ask_194 : decode cX5_ask 194 = .ok (.aload_n 0, 1) := by decide +kernel
theorem dX5_ask_195 : decode cX5_ask 195 = .ok (.getfield 118, 3) := by decide +kernel
theorem dX5_ask_198 : decode cX5_ask 198 = .ok (.bipush 24, 2) := by decide +kernel
theorem dX5_ask_200 : decode cX5_ask 200 = .ok (.if_icmp .ne 15, 3) := by decide +kernel
theorem dX5_ask_203 : decode cX5_ask 203 = .ok (.aload_n 0, 1) := by decide +kernel
theorem dX5_ask_204 : decode cX5_ask 204 = .ok (.iload_n 3, 1) := by decide +kernel
theorem dX5_ask_205 : decode cX5_ask 205 = .ok (.putfield 16, 3) := by decide +kernel
theorem dX5_ask_208 : decode cX5_ask 208 = .ok (.aload_n 0, 1) := by decide +kernel
theorem dX5_ask_209 : decode cX5_ask 209 = .ok (.bipush (-7), 2) := by decide +kernel
theorem dX5_ask_211 : decode cX5_ask 211 = .ok (.invokevirtual 99, 3) := by decide +kernel
theorem dX5_ask_214 : decode cX5_ask 214 = .ok (.ireturn, 1) := by decide +kernel
theorem dX5_ask_215 : decode cX5_ask 215 = .ok (.aload_n 0, 1) := by decide +kernel
theorem dX5_ask_216 : decode cX5_ask 216 = .ok (.iload_n 1, 1) := by decide +kernel
theorem dX5_ask_217 : decode cX5_ask 217 = .ok (.iload_n 2, 1) := by decide +kernel
theorem dX5_ask_218 : decode cX5_ask 218 = .ok (.iload 5, 2) := by decide +kernel
theorem dX5_ask_220 : decode cX5_ask 220 = .ok (.invokevirtual 138, 3) := by decide +kernel
theorem dX5_ask_223 : decode cX5_ask 223 = .ok (.iload 5, 2) := by decide +kernel
theorem dX5_ask_225 : decode cX5_ask 225 = .ok (.ireturn, 1) := by decide +kernel
theorem dX5_truly_0 : decode cX5_truly 0 = .ok (.iload_n 1, 1) := by decide +kernel
theorem dX5_truly_1 : decode cX5_truly 1 = .ok (.ifCond .lt 13, 3) := by decide +kernel
theorem dX5_truly_4 : decode cX5_truly 4 = .ok (.iload_n 1, 1) := by decide +kernel
theorem dX5_truly_5 : decode cX5_truly 5 = .ok (.iconst 1, 1) := by decide +kernel
theorem dX5_truly_6 : decode cX5_truly 6 = .ok (.aload_n 0, 1) := by decide +kernel
theorem dX5_truly_7 : decode cX5_truly 7 = .ok (.getfield 89, 3) := by decide +kernel
theorem dX5_truly_10 : decode cX5_truly 10 = .ok (.ishl, 1) := by decide +kernel
theorem dX5_truly_11 : decode cX5_truly 11 = .ok (.if_icmp .lt 9, 3) := by decide +kernel
theorem dX5_truly_14 : decode cX5_truly 14 = .ok (.aload_n 0, 1) := by decide +kernel
theorem dX5_truly_15 : decode cX5_truly 15 = .ok (.iconst (-1), 1) := by decide +kernel
theorem dX5_truly_16 : decode cX5_truly 16 = .ok (.invokevirtual 99, 3) := by decide +kernel
theorem dX5_truly_19 : decode cX5_truly 19 = .ok (.ireturn, 1) := by decide +kernel
theorem dX5_truly_20 : decode cX5_truly 20 = .ok (.aload_n 0, 1) := by decide +kernel
theorem dX5_truly_21 : decode cX5_truly 21 = .ok (.getfield 19, 3) := by decide +kernel
theorem dX5_truly_24 : decode cX5_truly 24 = .ok (.iconst (-1), 1) := by decide +kernel
theorem dX5_truly_25 : decode cX5_truly 25 = .ok (.if_icmp .ne 10, 3) := by decide +kernel
theorem dX5_truly_28 : decode cX5_truly 28 = .ok (.aload_n 0, 1) := by decide +kernel
theorem dX5_truly_29 : decode cX5_truly 29 = .ok (.bipush (-6), 2) := by decide +kernel
theorem dX5_truly_31 : decode cX5_truly 31 = .ok (.invokevirtual 99, 3) := by decide +kernel
theorem dX5_truly_34 : decode cX5_truly 34 = .ok (.ireturn, 1) := by decide +kernel
theorem dX5_truly_35 : decode cX5_truly 35 = .ok (.iload_n 1, 1) := by decide +kernel
theorem dX5_truly_36 : decode cX5_truly 36 = .ok (.aload_n 0, 1) := by decide +kernel
theorem dX5_truly_37 : decode cX5_truly 37 = .ok (.getfield 19, 3) := by decide +kernel
theorem dX5_truly_40 : decode cX5_truly 40 = .ok (.if_icmp .ne 7, 3) := by decide +kernel
theorem dX5_truly_43 : decode cX5_truly 43 = .ok (.iconst 1, 1) := by decide +kernel
theorem dX5_truly_44 : decode cX5_truly 44 = .ok (.goto 4, 3) := by decide +kernel
theorem dX5_truly_47 : decode cX5_truly 47 = .ok (.iconst 0, 1) := by decide +kernel
theorem dX5_truly_48 : decode cX5_truly 48 = .ok (.ireturn, 1) := by decide +kernel
theorem dX5_seed_0 : decode cX5_seed 0 = .ok (.aload_n 0, 1) := by decide +kernel
theorem dX5_seed_1 : decode cX5_seed 1 = .ok (.getfield 16, 3) := by decide +kernel
theorem dX5_seed_4 : decode cX5_seed 4 = .ok (.istore_n 2, 1) := by decide +kernel
theorem dX5_seed_5 : decode cX5_seed 5 = .ok (.aload_n 0, 1) := by decide +kernel
theorem dX5_seed_6 : decode cX5_seed 6 = .ok (.iload_n 1, 1) := by decide +kernel
theorem dX5_seed_7 : decode cX5_seed 7 = .ok (.putfield 16, 3) := by decide +kernel
theorem dX5_seed_10 : decode cX5_seed 10 = .ok (.iload_n 2, 1) := by decide +kernel
theorem dX5_seed_11 : decode cX5_seed 11 = .ok (.ireturn, 1) := by decide +kernel
theorem dX5_body_0 : decode cX5_body 0 = .ok (.aload_n 0, 1) := by decide +kernel
theorem dX5_body_1 : decode cX5_body 1 = .ok (.getfield 260, 3) := by decide +kernel
theorem dX5_body_4 : decode cX5_body 4 = .ok (.bipush 20, 2) := by decide +kernel
theorem dX5_body_6 : decode cX5_body 6 = .ok (.if_icmp .ge 13, 3) := by decide +kernel
theorem dX5_body_9 : decode cX5_body 9 = .ok (.aload_n 0, 1) := by decide +kernel
theorem dX5_body_10 : decode cX5_body 10 = .ok (.getfield 85, 3) := by decide +kernel
theorem dX5_body_13 : decode cX5_body 13 = .ok (.aload_n 0, 1) := by decide +kernel
theorem dX5_body_14 : decode cX5_body 14 = .ok (.getfield 260, 3) := by decide +kernel
theorem dX5_body_17 : decode cX5_body 17 = .ok (.iload_n 1, 1) := by decide +kernel
theorem dX5_body_18 : decode cX5_body 18 = .ok (.iastore, 1) := by decide +kernel
theorem dX5_body_19 : decode cX5_body 19 = .ok (.aload_n 0, 1) := by decide +kernel
theorem dX5_body_20 : decode cX5_body 20 = .ok (.dup, 1) := by decide +kernel
theorem dX5_body_21 : decode cX5_body 21 = .ok (.getfield 260, 3) := by decide +kernel
theorem dX5_body_24 : decode cX5_body 24 = .ok (.iconst 1, 1) := by decide +kernel
theorem dX5_body_25 : decode cX5_body 25 = .ok (.iadd, 1) := by decide +kernel
theorem dX5_body_26 : decode cX5_body 26 = .ok (.putfield 260, 3) := by decide +kernel
theorem dX5_body_29 : decode cX5_body 29 = .ok (.return_, 1) := by decide +kernel
theorem dX5_saying_0 : decode cX5_saying 0 = .ok (.aload_n 0, 1) := by decide +kernel
theorem dX5_saying_1 : decode cX5_saying 1 = .ok (.getfield 36, 3) := by decide +kernel
theorem dX5_saying_4 : decode cX5_saying 4 = .ok (.iload_n 1, 1) := by decide +kernel
theorem dX5_saying_5 : decode cX5_saying 5 = .ok (.iaload, 1) := by decide +kernel
theorem dX5_saying_6 : decode cX5_saying 6 = .ok (.istore_n 3, 1) := by decide +kernel
theorem dX5_saying_7 : decode cX5_saying 7 = .ok (.iload_n 2, 1) := by decide +kernel
theorem dX5_saying_8 : decode cX5_saying 8 = .ok (.istore 4, 2) := by decide +kernel
theorem dX5_saying_10 : decode cX5_saying 10 = .ok (.iload_n 3, 1) := by decide +kernel
theorem dX5_saying_11 : decode cX5_saying 11 = .ok (.iconst 3, 1) := by decide +kernel
theorem dX5_saying_12 : decode cX5_saying 12 = .ok (.if_icmp .ne 14, 3) := by decide +kernel
theorem dX5_saying_15 : decode cX5_saying 15 = .ok (.aload_n 0, 1) := by decide +kernel
theorem dX5_saying_16 : decode cX5_saying 16 = .ok (.bipush 30, 2) := by decide +kernel
theorem dX5_saying_18 : decode cX5_saying 18 = .ok (.invokevirtual 263, 3) := by decide +kernel
theorem dX5_saying_21 : decode cX5_saying 21 = .ok (.iload_n 2, 1) := by decide +kernel
theorem dX5_saying_22 : decode cX5_saying 22 = .ok (.iconst 1, 1) := by decide +kernel
theorem dX5_saying_23 : decode cX5_saying 23 = .ok (.iadd, 1) := by decide +kernel
theorem dX5_saying_24 : decode cX5_saying 24 = .ok (.istore 4, 2) := by decide +kernel
theorem dX5_saying_26 : decode cX5_saying 26 = .ok (.iload_n 3, 1) := by decide +kernel
theorem dX5_saying_27 : decode cX5_saying 27 = .ok (.iconst 1, 1) := by decide +kernel
theorem dX5_saying_28 : decode cX5_saying 28 = .ok (.if_icmp .eq 8, 3) := by decide +kernel
theorem dX5_saying_31 : decode cX5_saying 31 = .ok (.iload_n 3, 1) := by decide +kernel
theorem dX5_saying_32 : decode cX5_saying 32 = .ok (.iconst 3, 1) := by decide +kernel
theorem dX5_saying_33 : decode cX5_saying 33 = .ok (.if_icmp .ne 9, 3) := by decide +kernel
theorem dX5_saying_36 : decode cX5_saying 36 = .ok (.aload_n 0, 1) := by decide +kernel
theorem dX5_saying_37 : decode cX5_saying 37 = .ok (.bipush 20, 2) := by decide +kernel
theorem dX5_saying_39 : decode cX5_saying 39 = .ok (.invokevirtual 263, 3) := by decide +kernel
theorem dX5_saying_42 : decode cX5_saying 42 = .ok (.iload_n 3, 1) := by decide +kernel
theorem dX5_saying_43 : decode cX5_saying 43 = .ok (.bipush 6, 2) := by decide +kernel
theorem dX5_saying_45 : decode cX5_saying 45 = .ok (.if_icmp .ne 9, 3) := by decide +kernel
theorem dX5_saying_48 : decode cX5_saying 48 = .ok (.aload_n 0, 1) := by decide +kernel
theorem dX5_saying_49 : decode cX5_saying 49 = .ok (.bipush 70, 2) := by decide +kernel
theorem dX5_saying_51 : decode cX5_saying 51 = .ok (.invokevirtual 263, 3) := by decide +kernel
theorem dX5_saying_54 : decode cX5_saying 54 = .ok (.aload_n 0, 1) := by decide +kernel
theorem dX5_saying_55 : decode cX5_saying 55 = .ok (.bipush 10, 2) := by decide +kernel
theorem dX5_saying_57 : decode cX5_saying 57 = .ok (.invokevirtual 263, 3) := by decide +kernel
theorem dX5_saying_60 : decode cX5_saying 60 = .ok (.iload 4, 2) := by decide +kernel
theorem dX5_saying_62 : decode cX5_saying 62 = .ok (.iload_n 1, 1) := by decide +kernel
theorem dX5_saying_63 : decode cX5_saying 63 = .ok (.iadd, 1) := by decide +kernel
theorem dX5_saying_64 : decode cX5_saying 64 = .ok (.istore 5, 2) := by decide +kernel
theorem dX5_saying_66 : decode cX5_saying 66 = .ok (.iload_n 3, 1) := by decide +kernel
theorem dX5_saying_67 : decode cX5_saying 67 = .ok (.iconst 1, 1) := by decide +kernel
theorem dX5_saying_68 : decode cX5_saying 68 = .ok (.if_icmp .eq 8, 3) := by decide +kernel
theorem dX5_saying_71 : decode cX5_saying 71 = .ok (.iload_n 3, 1) := by decide +kernel
theorem dX5_saying_72 : decode cX5_saying 72 = .ok (.iconst 3, 1) := by decide +kernel
theorem dX5_saying_73 : decode cX5_saying 73 = .ok (.if_icmp .ne 15, 3) := by decide +kernel
theorem dX5_saying_76 : decode cX5_saying 76 = .ok (.iload 5, 2) := by decide +kernel
theorem dX5_saying_78 : decode cX5_saying 78 = .ok (.aload_n 0, 1) := by decide +kernel
theorem dX5_saying_79 : decode cX5_saying 79 = .ok (.getfield 39, 3) := by decide +kernel
theorem dX5_saying_82 : decode cX5_saying 82 = .ok (.iload_n 1, 1) := by decide +kernel
theorem dX5_saying_83 : decode cX5_saying 83 = .ok (.iaload, 1) := by decide +kernel
theorem dX5_saying_84 : decode cX5_saying 84 = .ok (.iadd, 1) := by decide +kernel
theorem dX5_saying_85 : decode cX5_saying 85 = .ok (.goto 18, 3) := by decide +kernel
theorem dX5_saying_88 : decode cX5_saying 88 = .ok (.iload_n 3, 1) := by decide +kernel
theorem dX5_saying_89 : decode cX5_saying 89 = .ok (.bipush 6, 2) := by decide +kernel
theorem dX5_saying_91 : decode cX5_saying 91 = .ok (.if_icmp .ne 10, 3) := by decide +kernel
theorem dX5_saying_94 : decode cX5_saying 94 = .ok (.iload 5, 2) := by decide +kernel
theorem dX5_saying_96 : decode cX5_saying 96 = .ok (.iconst 2, 1) := by decide +kernel
theorem dX5_saying_97 : decode cX5_saying 97 = .ok (.imul, 1) := by decide +kernel
theorem dX5_saying_98 : decode cX5_saying 98 = .ok (.goto 5, 3) := by decide +kernel
theorem dX5_saying_101 : decode cX5_saying 101 = .ok (.iload 5, 2) := by decide +kernel
theorem dX5_saying_103 : decode cX5_saying 103 = .ok (.ireturn, 1) := by decide +kernel
theorem dX5_hiding_0 : decode cX5_hiding 0 = .ok (.aload_n 0, 1) := by decide +kernel
theorem dX5_hiding_1 : decode cX5_hiding 1 = .ok (.getfield 36, 3) := by decide +kernel
theorem dX5_hiding_4 : decode cX5_hiding 4 = .ok (.iload_n 1, 1) := by decide +kernel
theorem dX5_hiding_5 : decode cX5_hiding 5 = .ok (.iaload, 1) := by decide +kernel
theorem dX5_hiding_6 : decode cX5_hiding 6 = .ok (.istore_n 3, 1) := by decide +kernel
theorem dX5_hiding_7 : decode cX5_hiding 7 = .ok (.iload_n 3, 1) := by decide +kernel
theorem dX5_hiding_8 : decode cX5_hiding 8 = .ok (.iconst 2, 1) := by decide +kernel
theorem dX5_hiding_9 : decode cX5_hiding 9 = .ok (.if_icmp .ne 9, 3) := by decide +kernel
theorem dX5_hiding_12 : decode cX5_hiding 12 = .ok (.aload_n 0, 1) := by decide +kernel
theorem dX5_hiding_13 : decode cX5_hiding 13 = .ok (.bipush 40, 2) := by decide +kernel
theorem dX5_hiding_15 : decode cX5_hiding 15 = .ok (.invokevirtual 263, 3) := by decide +kernel
theorem dX5_hiding_18 : decode cX5_hiding 18 = .ok (.iload_n 3, 1) := by decide +kernel
theorem dX5_hiding_19 : decode cX5_hiding 19 = .ok (.iconst 5, 1) := by decide +kernel
theorem dX5_hiding_20 : decode cX5_hiding 20 = .ok (.if_icmp .ne 9, 3) := by decide +kernel
theorem dX5_hiding_23 : decode cX5_hiding 23 = .ok (.aload_n 0, 1) := by decide +kernel
theorem dX5_hiding_24 : decode cX5_hiding 24 = .ok (.bipush 60, 2) := by decide +kernel
theorem dX5_hiding_26 : decode cX5_hiding 26 = .ok (.invokevirtual 263, 3) := by decide +kernel
theorem dX5_hiding_29 : decode cX5_hiding 29 = .ok (.iload_n 3, 1) := by decide +kernel
theorem dX5_hiding_30 : decode cX5_hiding 30 = .ok (.iconst 4, 1) := by decide +kernel
theorem dX5_hiding_31 : decode cX5_hiding 31 = .ok (.if_icmp .eq 8, 3) := by decide +kernel
theorem dX5_hiding_34 : decode cX5_hiding 34 = .ok (.iload_n 3, 1) := by decide +kernel
theorem dX5_hiding_35 : decode cX5_hiding 35 = .ok (.iconst 5, 1) := by decide +kernel
theorem dX5_hiding_36 : decode cX5_hiding 36 = .ok (.if_icmp .ne 9, 3) := by decide +kernel
theorem dX5_hiding_39 : decode cX5_hiding 39 = .ok (.aload_n 0, 1) := by decide +kernel
theorem dX5_hiding_40 : decode cX5_hiding 40 = .ok (.bipush 50, 2) := by decide +kernel
theorem dX5_hiding_42 : decode cX5_hiding 42 = .ok (.invokevirtual 263, 3) := by decide +kernel
theorem dX5_hiding_45 : decode cX5_hiding 45 = .ok (.aload_n 0, 1) := by decide +kernel
theorem dX5_hiding_46 : decode cX5_hiding 46 = .ok (.bipush 11, 2) := by decide +kernel
theorem dX5_hiding_48 : decode cX5_hiding 48 = .ok (.invokevirtual 263, 3) := by decide +kernel
theorem dX5_hiding_51 : decode cX5_hiding 51 = .ok (.aload_n 0, 1) := by decide +kernel
theorem dX5_hiding_52 : decode cX5_hiding 52 = .ok (.iload_n 1, 1) := by decide +kernel
theorem dX5_hiding_53 : decode cX5_hiding 53 = .ok (.iload_n 2, 1) := by decide +kernel
theorem dX5_hiding_54 : decode cX5_hiding 54 = .ok (.invokevirtual 267, 3) := by decide +kernel
theorem dX5_hiding_57 : decode cX5_hiding 57 = .ok (.iconst 2, 1) := by decide +kernel
theorem dX5_hiding_58 : decode cX5_hiding 58 = .ok (.imul, 1) := by decide +kernel
theorem dX5_hiding_59 : decode cX5_hiding 59 = .ok (.istore 4, 2) := by decide +kernel
theorem dX5_hiding_61 : decode cX5_hiding 61 = .ok (.iload_n 3, 1) := by decide +kernel
theorem dX5_hiding_62 : decode cX5_hiding 62 = .ok (.iconst 2, 1) := by decide +kernel
theorem dX5_hiding_63 : decode cX5_hiding 63 = .ok (.if_icmp .ne 10, 3) := by decide +kernel
theorem dX5_hiding_66 : decode cX5_hiding 66 = .ok (.iload 4, 2) := by decide +kernel
theorem dX5_hiding_68 : decode cX5_hiding 68 = .ok (.iconst 3, 1) := by decide +kernel
theorem dX5_hiding_69 : decode cX5_hiding 69 = .ok (.imul, 1) := by decide +kernel
theorem dX5_hiding_70 : decode cX5_hiding 70 = .ok (.goto 29, 3) := by decide +kernel
theorem dX5_hiding_73 : decode cX5_hiding 73 = .ok (.iload_n 3, 1) := by decide +kernel
theorem dX5_hiding_74 : decode cX5_hiding 74 = .ok (.iconst 4, 1) := by decide +kernel
theorem dX5_hiding_75 : decode cX5_hiding 75 = .ok (.if_icmp .ne 9, 3) := by decide +kernel
theorem dX5_hiding_78 : decode cX5_hiding 78 = .ok (.iload 4, 2) := by decide +kernel
theorem dX5_hiding_80 : decode cX5_hiding 80 = .ok (.ineg, 1) := by decide +kernel
theorem dX5_hiding_81 : decode cX5_hiding 81 = .ok (.goto 18, 3) := by decide +kernel
theorem dX5_hiding_84 : decode cX5_hiding 84 = .ok (.iload_n 3, 1) := by decide +kernel
theorem dX5_hiding_85 : decode cX5_hiding 85 = .ok (.iconst 5, 1) := by decide +kernel
theorem dX5_hiding_86 : decode cX5_hiding 86 = .ok (.if_icmp .ne 11, 3) := by decide +kernel
theorem dX5_hiding_89 : decode cX5_hiding 89 = .ok (.iload 4, 2) := by decide +kernel
theorem dX5_hiding_91 : decode cX5_hiding 91 = .ok (.ineg, 1) := by decide +kernel
theorem dX5_hiding_92 : decode cX5_hiding 92 = .ok (.iconst 5, 1) := by decide +kernel
theorem dX5_hiding_93 : decode cX5_hiding 93 = .ok (.ixor, 1) := by decide +kernel
theorem dX5_hiding_94 : decode cX5_hiding 94 = .ok (.goto 5, 3) := by decide +kernel
theorem dX5_hiding_97 : decode cX5_hiding 97 = .ok (.iload 4, 2) := by decide +kernel
theorem dX5_hiding_99 : decode cX5_hiding 99 = .ok (.ireturn, 1) := by decide +kernel
theorem dX5_knowing_0 : decode cX5_knowing 0 = .ok (.aload_n 0, 1) := by decide +kernel
theorem dX5_knowing_1 : decode cX5_knowing 1 = .ok (.getfield 36, 3) := by decide +kernel
theorem dX5_knowing_4 : decode cX5_knowing 4 = .ok (.iload_n 1, 1) := by decide +kernel
theorem dX5_knowing_5 : decode cX5_knowing 5 = .ok (.iaload, 1) := by decide +kernel
theorem dX5_knowing_6 : decode cX5_knowing 6 = .ok (.istore_n 3, 1) := by decide +kernel
theorem dX5_knowing_7 : decode cX5_knowing 7 = .ok (.iload_n 2, 1) := by decide +kernel
theorem dX5_knowing_8 : decode cX5_knowing 8 = .ok (.istore 4, 2) := by decide +kernel
theorem dX5_knowing_10 : decode cX5_knowing 10 = .ok (.iload_n 3, 1) := by decide +kernel
theorem dX5_knowing_11 : decode cX5_knowing 11 = .ok (.iconst 3, 1) := by decide +kernel
theorem dX5_knowing_12 : decode cX5_knowing 12 = .ok (.if_icmp .ne 9, 3) := by decide +kernel
theorem dX5_knowing_15 : decode cX5_knowing 15 = .ok (.aload_n 0, 1) := by decide +kernel
theorem dX5_knowing_16 : decode cX5_knowing 16 = .ok (.bipush 31, 2) := by decide +kernel
theorem dX5_knowing_18 : decode cX5_knowing 18 = .ok (.invokevirtual 263, 3) := by decide +kernel
theorem dX5_knowing_21 : decode cX5_knowing 21 = .ok (.iload_n 3, 1) := by decide +kernel
theorem dX5_knowing_22 : decode cX5_knowing 22 = .ok (.bipush 6, 2) := by decide +kernel
theorem dX5_knowing_24 : decode cX5_knowing 24 = .ok (.if_icmp .ne 19, 3) := by decide +kernel
theorem dX5_knowing_27 : decode cX5_knowing 27 = .ok (.aload_n 0, 1) := by decide +kernel
theorem dX5_knowing_28 : decode cX5_knowing 28 = .ok (.bipush 71, 2) := by decide +kernel
theorem dX5_knowing_30 : decode cX5_knowing 30 = .ok (.invokevirtual 263, 3) := by decide +kernel
theorem dX5_knowing_33 : decode cX5_knowing 33 = .ok (.iload_n 2, 1) := by decide +kernel
theorem dX5_knowing_34 : decode cX5_knowing 34 = .ok (.aload_n 0, 1) := by decide +kernel
theorem dX5_knowing_35 : decode cX5_knowing 35 = .ok (.getfield 39, 3) := by decide +kernel
theorem dX5_knowing_38 : decode cX5_knowing 38 = .ok (.iload_n 1, 1) := by decide +kernel
theorem dX5_knowing_39 : decode cX5_knowing 39 = .ok (.iaload, 1) := by decide +kernel
theorem dX5_knowing_40 : decode cX5_knowing 40 = .ok (.isub, 1) := by decide +kernel
theorem dX5_knowing_41 : decode cX5_knowing 41 = .ok (.istore 4, 2) := by decide +kernel
theorem dX5_knowing_43 : decode cX5_knowing 43 = .ok (.aload_n 0, 1) := by decide +kernel
theorem dX5_knowing_44 : decode cX5_knowing 44 = .ok (.bipush 12, 2) := by decide +kernel
theorem dX5_knowing_46 : decode cX5_knowing 46 = .ok (.invokevirtual 263, 3) := by decide +kernel
theorem dX5_knowing_49 : decode cX5_knowing 49 = .ok (.aload_n 0, 1) := by decide +kernel
theorem dX5_knowing_50 : decode cX5_knowing 50 = .ok (.iload_n 1, 1) := by decide +kernel
theorem dX5_knowing_51 : decode cX5_knowing 51 = .ok (.iload 4, 2) := by decide +kernel
theorem dX5_knowing_53 : decode cX5_knowing 53 = .ok (.invokevirtual 270, 3) := by decide +kernel
theorem dX5_knowing_56 : decode cX5_knowing 56 = .ok (.istore 5, 2) := by decide +kernel
theorem dX5_knowing_58 : decode cX5_knowing 58 = .ok (.iload 5, 2) := by decide +kernel
theorem dX5_knowing_60 : decode cX5_knowing 60 = .ok (.aload_n 0, 1) := by decide +kernel
theorem dX5_knowing_61 : decode cX5_knowing 61 = .ok (.iload_n 1, 1) := by decide +kernel
theorem dX5_knowing_62 : decode cX5_knowing 62 = .ok (.iload 4, 2) := by decide +kernel
theorem dX5_knowing_64 : decode cX5_knowing 64 = .ok (.aload_n 0, 1) := by decide +kernel
theorem dX5_knowing_65 : decode cX5_knowing 65 = .ok (.getfield 39, 3) := by decide +kernel
theorem dX5_knowing_68 : decode cX5_knowing 68 = .ok (.iload_n 1, 1) := by decide +kernel
theorem dX5_knowing_69 : decode cX5_knowing 69 = .ok (.iaload, 1) := by decide +kernel
theorem dX5_knowing_70 : decode cX5_knowing 70 = .ok (.isub, 1) := by decide +kernel
theorem dX5_knowing_71 : decode cX5_knowing 71 = .ok (.invokevirtual 267, 3) := by decide +kernel
theorem dX5_knowing_74 : decode cX5_knowing 74 = .ok (.ixor, 1) := by decide +kernel
theorem dX5_knowing_75 : decode cX5_knowing 75 = .ok (.istore 5, 2) := by decide +kernel
theorem dX5_knowing_77 : decode cX5_knowing 77 = .ok (.iload_n 3, 1) := by decide +kernel
theorem dX5_knowing_78 : decode cX5_knowing 78 = .ok (.iconst 3, 1) := by decide +kernel
theorem dX5_knowing_79 : decode cX5_knowing 79 = .ok (.if_icmp .ne 10, 3) := by decide +kernel
theorem dX5_knowing_82 : decode cX5_knowing 82 = .ok (.iload 5, 2) := by decide +kernel
theorem dX5_knowing_84 : decode cX5_knowing 84 = .ok (.iload_n 1, 1) := by decide +kernel
theorem dX5_knowing_85 : decode cX5_knowing 85 = .ok (.isub, 1) := by decide +kernel
theorem dX5_knowing_86 : decode cX5_knowing 86 = .ok (.goto 5, 3) := by decide +kernel
theorem dX5_knowing_89 : decode cX5_knowing 89 = .ok (.iload 5, 2) := by decide +kernel
theorem dX5_knowing_91 : decode cX5_knowing 91 = .ok (.ireturn, 1) := by decide +kernel
theorem dX5_act_0 : decode cX5_act 0 = .ok (.aload_n 0, 1) := by decide +kernel
theorem dX5_act_1 : decode cX5_act 1 = .ok (.iconst 0, 1) := by decide +kernel
theorem dX5_act_2 : decode cX5_act 2 = .ok (.putfield 260, 3) := by decide +kernel
theorem dX5_act_5 : decode cX5_act 5 = .ok (.aload_n 0, 1) := by decide +kernel
theorem dX5_act_6 : decode cX5_act 6 = .ok (.iload_n 1, 1) := by decide +kernel
theorem dX5_act_7 : decode cX5_act 7 = .ok (.invokevirtual 103, 3) := by decide +kernel
theorem dX5_act_10 : decode cX5_act 10 = .ok (.ifCond .eq 12, 3) := by decide +kernel
theorem dX5_act_13 : decode cX5_act 13 = .ok (.iload_n 2, 1) := by decide +kernel
theorem dX5_act_14 : decode cX5_act 14 = .ok (.ifCond .lt 8, 3) := by decide +kernel
theorem dX5_act_17 : decode cX5_act 17 = .ok (.iload_n 2, 1) := by decide +kernel
theorem dX5_act_18 : decode cX5_act 18 = .ok (.iconst 2, 1) := by decide +kernel
theorem dX5_act_19 : decode cX5_act 19 = .ok (.if_icmp .le 5, 3) := by decide +kernel
theorem dX5_act_22 : decode cX5_act 22 = .ok (.iconst 0, 1) := by decide +kernel
theorem dX5_act_23 : decode cX5_act 23 = .ok (.ireturn, 1) := by decide +kernel
theorem dX5_act_24 : decode cX5_act 24 = .ok (.iload_n 2, 1) := by decide +kernel
theorem dX5_act_25 : decode cX5_act 25 = .ok (.ifCond .ne 12, 3) := by decide +kernel
theorem dX5_act_28 : decode cX5_act 28 = .ok (.aload_n 0, 1) := by decide +kernel
theorem dX5_act_29 : decode cX5_act 29 = .ok (.iload_n 1, 1) := by decide +kernel
theorem dX5_act_30 : decode cX5_act 30 = .ok (.iload_n 3, 1) := by decide +kernel
theorem dX5_act_31 : decode cX5_act 31 = .ok (.invokevirtual 267, 3) := by decide +kernel
theorem dX5_act_34 : decode cX5_act 34 = .ok (.goto 23, 3) := by decide +kernel
theorem dX5_act_37 : decode cX5_act 37 = .ok (.iload_n 2, 1) := by decide +kernel
theorem dX5_act_38 : decode cX5_act 38 = .ok (.iconst 1, 1) := by decide +kernel
theorem dX5_act_39 : decode cX5_act 39 = .ok (.if_icmp .ne 12, 3) := by decide +kernel
theorem dX5_act_42 : decode cX5_act 42 = .ok (.aload_n 0, 1) := by decide +kernel
theorem dX5_act_43 : decode cX5_act 43 = .ok (.iload_n 1, 1) := by decide +kernel
theorem dX5_act_44 : decode cX5_act 44 = .ok (.iload_n 3, 1) := by decide +kernel
theorem dX5_act_45 : decode cX5_act 45 = .ok (.invokevirtual 270, 3) := by decide +kernel
theorem dX5_act_48 : decode cX5_act 48 = .ok (.goto 9, 3) := by decide +kernel
theorem dX5_act_51 : decode cX5_act 51 = .ok (.aload_n 0, 1) := by decide +kernel
theorem dX5_act_52 : decode cX5_act 52 = .ok (.iload_n 1, 1) := by decide +kernel
theorem dX5_act_53 : decode cX5_act 53 = .ok (.iload_n 3, 1) := by decide +kernel
theorem dX5_act_54 : decode cX5_act 54 = .ok (.invokevirtual 273, 3) := by decide +kernel
theorem dX5_act_57 : decode cX5_act 57 = .ok (.ireturn, 1) := by decide +kernel
theorem dX5_trace_0 : decode cX5_trace 0 = .ok (.iload_n 1, 1) := by decide +kernel
theorem dX5_trace_1 : decode cX5_trace 1 = .ok (.ifCond .lt 26, 3) := by decide +kernel
theorem dX5_trace_4 : decode cX5_trace 4 = .ok (.iload_n 1, 1) := by decide +kernel
theorem dX5_trace_5 : decode cX5_trace 5 = .ok (.bipush 20, 2) := by decide +kernel
theorem dX5_trace_7 : decode cX5_trace 7 = .ok (.if_icmp .ge 20, 3) := by decide +kernel
theorem dX5_trace_10 : decode cX5_trace 10 = .ok (.iload_n 1, 1) := by decide +kernel
theorem dX5_trace_11 : decode cX5_trace 11 = .ok (.aload_n 0, 1) := by decide +kernel
theorem dX5_trace_12 : decode cX5_trace 12 = .ok (.getfield 260, 3) := by decide +kernel
theorem dX5_trace_15 : decode cX5_trace 15 = .ok (.if_icmp .ge 12, 3) := by decide +kernel
theorem dX5_trace_18 : decode cX5_trace 18 = .ok (.aload_n 0, 1) := by decide +kernel
theorem dX5_trace_19 : decode cX5_trace 19 = .ok (.getfield 85, 3) := by decide +kernel
theorem dX5_trace_22 : decode cX5_trace 22 = .ok (.iload_n 1, 1) := by decide +kernel
theorem dX5_trace_23 : decode cX5_trace 23 = .ok (.iaload, 1) := by decide +kernel
theorem dX5_trace_24 : decode cX5_trace 24 = .ok (.goto 4, 3) := by decide +kernel
