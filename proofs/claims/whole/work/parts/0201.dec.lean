theorem dX3_allowedByPairs_75 : decode cX3_allowedByPairs 75 = .ok (.iload 6, 2) := by decide +kernel
theorem dX3_allowedByPairs_77 : decode cX3_allowedByPairs 77 = .ok (.laload, 1) := by decide +kernel
theorem dX3_allowedByPairs_78 : decode cX3_allowedByPairs 78 = .ok (.aload_n 0, 1) := by decide +kernel
theorem dX3_allowedByPairs_79 : decode cX3_allowedByPairs 79 = .ok (.getfield 33, 3) := by decide +kernel
theorem dX3_allowedByPairs_82 : decode cX3_allowedByPairs 82 = .ok (.iload 7, 2) := by decide +kernel
theorem dX3_allowedByPairs_84 : decode cX3_allowedByPairs 84 = .ok (.laload, 1) := by decide +kernel
theorem dX3_allowedByPairs_85 : decode cX3_allowedByPairs 85 = .ok (.lxor, 1) := by decide +kernel
theorem dX3_allowedByPairs_86 : decode cX3_allowedByPairs 86 = .ok (.land, 1) := by decide +kernel
theorem dX3_allowedByPairs_87 : decode cX3_allowedByPairs 87 = .ok (.lstore 4, 2) := by decide +kernel
theorem dX3_allowedByPairs_89 : decode cX3_allowedByPairs 89 = .ok (.iload 7, 2) := by decide +kernel
theorem dX3_allowedByPairs_91 : decode cX3_allowedByPairs 91 = .ok (.istore 6, 2) := by decide +kernel
theorem dX3_allowedByPairs_93 : decode cX3_allowedByPairs 93 = .ok (.iinc 7 1, 3) := by decide +kernel
theorem dX3_allowedByPairs_96 : decode cX3_allowedByPairs 96 = .ok (.goto (-85), 3) := by decide +kernel
theorem dX3_allowedByPairs_99 : decode cX3_allowedByPairs 99 = .ok (.lload 4, 2) := by decide +kernel
theorem dX3_allowedByPairs_101 : decode cX3_allowedByPairs 101 = .ok (.lreturn, 1) := by decide +kernel
theorem dX3_mustBeTrue_0 : decode cX3_mustBeTrue 0 = .ok (.aload_n 0, 1) := by decide +kernel
theorem dX3_mustBeTrue_1 : decode cX3_mustBeTrue 1 = .ok (.getfield 15, 3) := by decide +kernel
theorem dX3_mustBeTrue_4 : decode cX3_mustBeTrue 4 = .ok (.iload_n 1, 1) := by decide +kernel
theorem dX3_mustBeTrue_5 : decode cX3_mustBeTrue 5 = .ok (.iaload, 1) := by decide +kernel
theorem dX3_mustBeTrue_6 : decode cX3_mustBeTrue 6 = .ok (.tableswitch 112 1 5 #[34, 48, 67, 73, 93], 34) := by decide +kernel
theorem dX3_mustBeTrue_40 : decode cX3_mustBeTrue 40 = .ok (.iload_n 2, 1) := by decide +kernel
theorem dX3_mustBeTrue_41 : decode cX3_mustBeTrue 41 = .ok (.aload_n 0, 1) := by decide +kernel
theorem dX3_mustBeTrue_42 : decode cX3_mustBeTrue 42 = .ok (.getfield 54, 3) := by decide +kernel
theorem dX3_mustBeTrue_45 : decode cX3_mustBeTrue 45 = .ok (.if_icmp .ge 7, 3) := by decide +kernel
theorem dX3_mustBeTrue_48 : decode cX3_mustBeTrue 48 = .ok (.iconst 1, 1) := by decide +kernel
theorem dX3_mustBeTrue_49 : decode cX3_mustBeTrue 49 = .ok (.goto 4, 3) := by decide +kernel
theorem dX3_mustBeTrue_52 : decode cX3_mustBeTrue 52 = .ok (.iconst 0, 1) := by decide +kernel
theorem dX3_mustBeTrue_53 : decode cX3_mustBeTrue 53 = .ok (.ireturn, 1) := by decide +kernel
theorem dX3_mustBeTrue_54 : decode cX3_mustBeTrue 54 = .ok (.iload_n 2, 1) := by decide +kernel
theorem dX3_mustBeTrue_55 : decode cX3_mustBeTrue 55 = .ok (.aload_n 0, 1) := by decide +kernel
theorem dX3_mustBeTrue_56 : decode cX3_mustBeTrue 56 = .ok (.getfield 51, 3) := by decide +kernel
theorem dX3_mustBeTrue_59 : decode cX3_mustBeTrue 59 = .ok (.aload_n 0, 1) := by decide +kernel
theorem dX3_mustBeTrue_60 : decode cX3_mustBeTrue 60 = .ok (.getfield 54, 3) := by decide +kernel
theorem dX3_mustBeTrue_63 : decode cX3_mustBeTrue 63 = .ok (.isub, 1) := by decide +kernel
theorem dX3_mustBeTrue_64 : decode cX3_mustBeTrue 64 = .ok (.if_icmp .lt 7, 3) := by decide +kernel
theorem dX3_mustBeTrue_67 : decode cX3_mustBeTrue 67 = .ok (.iconst 1, 1) := by decide +kernel
theorem dX3_mustBeTrue_68 : decode cX3_mustBeTrue 68 = .ok (.goto 4, 3) := by decide +kernel
theorem dX3_mustBeTrue_71 : decode cX3_mustBeTrue 71 = .ok (.iconst 0, 1) := by decide +kernel
theorem dX3_mustBeTrue_72 : decode cX3_mustBeTrue 72 = .ok (.ireturn, 1) := by decide +kernel
theorem dX3_mustBeTrue_73 : decode cX3_mustBeTrue 73 = .ok (.aload_n 0, 1) := by decide +kernel
theorem dX3_mustBeTrue_74 : decode cX3_mustBeTrue 74 = .ok (.iload_n 2, 1) := by decide +kernel
theorem dX3_mustBeTrue_75 : decode cX3_mustBeTrue 75 = .ok (.invokevirtual 121, 3) := by decide +kernel
theorem dX3_mustBeTrue_78 : decode cX3_mustBeTrue 78 = .ok (.ireturn, 1) := by decide +kernel
theorem dX3_mustBeTrue_79 : decode cX3_mustBeTrue 79 = .ok (.aload_n 0, 1) := by decide +kernel
theorem dX3_mustBeTrue_80 : decode cX3_mustBeTrue 80 = .ok (.getfield 18, 3) := by decide +kernel
theorem dX3_mustBeTrue_83 : decode cX3_mustBeTrue 83 = .ok (.iload_n 1, 1) := by decide +kernel
theorem dX3_mustBeTrue_84 : decode cX3_mustBeTrue 84 = .ok (.iaload, 1) := by decide +kernel
theorem dX3_mustBeTrue_85 : decode cX3_mustBeTrue 85 = .ok (.iload_n 2, 1) := by decide +kernel
theorem dX3_mustBeTrue_86 : decode cX3_mustBeTrue 86 = .ok (.ishr, 1) := by decide +kernel
theorem dX3_mustBeTrue_87 : decode cX3_mustBeTrue 87 = .ok (.iconst 1, 1) := by decide +kernel
theorem dX3_mustBeTrue_88 : decode cX3_mustBeTrue 88 = .ok (.iand, 1) := by decide +kernel
theorem dX3_mustBeTrue_89 : decode cX3_mustBeTrue 89 = .ok (.iconst 1, 1) := by decide +kernel
theorem dX3_mustBeTrue_90 : decode cX3_mustBeTrue 90 = .ok (.if_icmp .ne 7, 3) := by decide +kernel
theorem dX3_mustBeTrue_93 : decode cX3_mustBeTrue 93 = .ok (.iconst 1, 1) := by decide +kernel
theorem dX3_mustBeTrue_94 : decode cX3_mustBeTrue 94 = .ok (.goto 4, 3) := by decide +kernel
theorem dX3_mustBeTrue_97 : decode cX3_mustBeTrue 97 = .ok (.iconst 0, 1) := by decide +kernel
theorem dX3_mustBeTrue_98 : decode cX3_mustBeTrue 98 = .ok (.ireturn, 1) := by decide +kernel
theorem dX3_mustBeTrue_99 : decode cX3_mustBeTrue 99 = .ok (.aload_n 0, 1) := by decide +kernel
theorem dX3_mustBeTrue_100 : decode cX3_mustBeTrue 100 = .ok (.getfield 18, 3) := by decide +kernel
theorem dX3_mustBeTrue_103 : decode cX3_mustBeTrue 103 = .ok (.iload_n 1, 1) := by decide +kernel
theorem dX3_mustBeTrue_104 : decode cX3_mustBeTrue 104 = .ok (.iaload, 1) := by decide +kernel
theorem dX3_mustBeTrue_105 : decode cX3_mustBeTrue 105 = .ok (.iload_n 2, 1) := by decide +kernel
theorem dX3_mustBeTrue_106 : decode cX3_mustBeTrue 106 = .ok (.ishr, 1) := by decide +kernel
theorem dX3_mustBeTrue_107 : decode cX3_mustBeTrue 107 = .ok (.iconst 1, 1) := by decide +kernel
theorem dX3_mustBeTrue_108 : decode cX3_mustBeTrue 108 = .ok (.iand, 1) := by decide +kernel
theorem dX3_mustBeTrue_109 : decode cX3_mustBeTrue 109 = .ok (.ifCond .ne 7, 3) := by decide +kernel
theorem dX3_mustBeTrue_112 : decode cX3_mustBeTrue 112 = .ok (.iconst 1, 1) := by decide +kernel
theorem dX3_mustBeTrue_113 : decode cX3_mustBeTrue 113 = .ok (.goto 4, 3) := by decide +kernel
theorem dX3_mustBeTrue_116 : decode cX3_mustBeTrue 116 = .ok (.iconst 0, 1) := by decide +kernel
theorem dX3_mustBeTrue_117 : decode cX3_mustBeTrue 117 = .ok (.ireturn, 1) := by decide +kernel
theorem dX3_mustBeTrue_118 : decode cX3_mustBeTrue 118 = .ok (.iconst 0, 1) := by decide +kernel
theorem dX3_mustBeTrue_119 : decode cX3_mustBeTrue 119 = .ok (.ireturn, 1) := by decide +kernel
theorem dX3_mustLateBeTrue_0 : decode cX3_mustLateBeTrue 0 = .ok (.aload_n 0, 1) := by decide +kernel
theorem dX3_mustLateBeTrue_1 : decode cX3_mustLateBeTrue 1 = .ok (.getfield 54, 3) := by decide +kernel
theorem dX3_mustLateBeTrue_4 : decode cX3_mustLateBeTrue 4 = .ok (.ifCond .eq 14, 3) := by decide +kernel
theorem dX3_mustLateBeTrue_7 : decode cX3_mustLateBeTrue 7 = .ok (.aload_n 0, 1) := by decide +kernel
theorem dX3_mustLateBeTrue_8 : decode cX3_mustLateBeTrue 8 = .ok (.getfield 54, 3) := by decide +kernel
theorem dX3_mustLateBeTrue_11 : decode cX3_mustLateBeTrue 11 = .ok (.aload_n 0, 1) := by decide +kernel
theorem dX3_mustLateBeTrue_12 : decode cX3_mustLateBeTrue 12 = .ok (.getfield 51, 3) := by decide +kernel
theorem dX3_mustLateBeTrue_15 : decode cX3_mustLateBeTrue 15 = .ok (.if_icmp .ne 17, 3) := by decide +kernel
theorem dX3_mustLateBeTrue_18 : decode cX3_mustLateBeTrue 18 = .ok (.iload_n 1, 1) := by decide +kernel
theorem dX3_mustLateBeTrue_19 : decode cX3_mustLateBeTrue 19 = .ok (.aload_n 0, 1) := by decide +kernel
theorem dX3_mustLateBeTrue_20 : decode cX3_mustLateBeTrue 20 = .ok (.getfield 54, 3) := by decide +kernel
theorem dX3_mustLateBeTrue_23 : decode cX3_mustLateBeTrue 23 = .ok (.if_icmp .ge 7, 3) := by decide +kernel
theorem dX3_mustLateBeTrue_26 : decode cX3_mustLateBeTrue 26 = .ok (.iconst 1, 1) := by decide +kernel
theorem dX3_mustLateBeTrue_27 : decode cX3_mustLateBeTrue 27 = .ok (.goto 4, 3) := by decide +kernel
theorem dX3_mustLateBeTrue_30 : decode cX3_mustLateBeTrue 30 = .ok (.iconst 0, 1) := by decide +kernel
theorem dX3_mustLateBeTrue_31 : decode cX3_mustLateBeTrue 31 = .ok (.ireturn, 1) := by decide +kernel
theorem dX3_mustLateBeTrue_32 : decode cX3_mustLateBeTrue 32 = .ok (.iload_n 1, 1) := by decide +kernel
theorem dX3_mustLateBeTrue_33 : decode cX3_mustLateBeTrue 33 = .ok (.aload_n 0, 1) := by decide +kernel
theorem dX3_mustLateBeTrue_34 : decode cX3_mustLateBeTrue 34 = .ok (.getfield 54, 3) := by decide +kernel
theorem dX3_mustLateBeTrue_37 : decode cX3_mustLateBeTrue 37 = .ok (.iconst 1, 1) := by decide +kernel
theorem dX3_mustLateBeTrue_38 : decode cX3_mustLateBeTrue 38 = .ok (.isub, 1) := by decide +kernel
theorem dX3_mustLateBeTrue_39 : decode cX3_mustLateBeTrue 39 = .ok (.if_icmp .lt 13, 3) := by decide +kernel
theorem dX3_mustLateBeTrue_42 : decode cX3_mustLateBeTrue 42 = .ok (.iload_n 1, 1) := by decide +kernel
theorem dX3_mustLateBeTrue_43 : decode cX3_mustLateBeTrue 43 = .ok (.aload_n 0, 1) := by decide +kernel
theorem dX3_mustLateBeTrue_44 : decode cX3_mustLateBeTrue 44 = .ok (.getfield 51, 3) := by decide +kernel
theorem dX3_mustLateBeTrue_47 : decode cX3_mustLateBeTrue 47 = .ok (.iconst 1, 1) := by decide +kernel
theorem dX3_mustLateBeTrue_48 : decode cX3_mustLateBeTrue 48 = .ok (.isub, 1) := by decide +kernel
theorem dX3_mustLateBeTrue_49 : decode cX3_mustLateBeTrue 49 = .ok (.if_icmp .ne 7, 3) := by decide +kernel
theorem dX3_mustLateBeTrue_52 : decode cX3_mustLateBeTrue 52 = .ok (.iconst 1, 1) := by decide +kernel
theorem dX3_mustLateBeTrue_53 : decode cX3_mustLateBeTrue 53 = .ok (.goto 4, 3) := by decide +kernel
theorem dX3_mustLateBeTrue_56 : decode cX3_mustLateBeTrue 56 = .ok (.iconst 0, 1) := by decide +kernel
theorem dX3_mustLateBeTrue_57 : decode cX3_mustLateBeTrue 57 = .ok (.ireturn, 1) := by decide +kernel
theorem dX3_lawfulRows_0 : decode cX3_lawfulRows 0 = .ok (.aload_n 0, 1) := by decide +kernel
theorem dX3_lawfulRows_1 : decode cX3_lawfulRows 1 = .ok (.getfield 15, 3) := by decide +kernel
theorem dX3_lawfulRows_4 : decode cX3_lawfulRows 4 = .ok (.iload_n 1, 1) := by decide +kernel
theorem dX3_lawfulRows_5 : decode cX3_lawfulRows 5 = .ok (.iaload, 1) := by decide +kernel
theorem dX3_lawfulRows_6 : decode cX3_lawfulRows 6 = .ok (.bipush 6, 2) := by decide +kernel
theorem dX3_lawfulRows_8 : decode cX3_lawfulRows 8 = .ok (.if_icmp .ne 11, 3) := by decide +kernel
theorem dX3_lawfulRows_11 : decode cX3_lawfulRows 11 = .ok (.iconst 1, 1) := by decide +kernel
theorem dX3_lawfulRows_12 : decode cX3_lawfulRows 12 = .ok (.iload_n 2, 1) := by decide +kernel
theorem dX3_lawfulRows_13 : decode cX3_lawfulRows 13 = .ok (.iconst 1, 1) := by decide +kernel
theorem dX3_lawfulRows_14 : decode cX3_lawfulRows 14 = .ok (.iadd, 1) := by decide +kernel
theorem dX3_lawfulRows_15 : decode cX3_lawfulRows 15 = .ok (.iconst 2, 1) := by decide +kernel
theorem dX3_lawfulRows_16 : decode cX3_lawfulRows 16 = .ok (.idiv, 1) := by decide +kernel
theorem dX3_lawfulRows_17 : decode cX3_lawfulRows 17 = .ok (.ishl, 1) := by decide +kernel
theorem dX3_lawfulRows_18 : decode cX3_lawfulRows 18 = .ok (.ireturn, 1) := by decide +kernel
theorem dX3_lawfulRows_19 : decode cX3_lawfulRows 19 = .ok (.aload_n 0, 1) := by decide +kernel
theorem dX3_lawfulRows_20 : decode cX3_lawfulRows 20 = .ok (.getfield 15, 3) := by decide +kernel
theorem dX3_lawfulRows_23 : decode cX3_lawfulRows 23 = .ok (.iload_n 1, 1) := by decide +kernel
theorem dX3_lawfulRows_24 : decode cX3_lawfulRows 24 = .ok (.iaload, 1) := by decide +kernel
theorem dX3_lawfulRows_25 : decode cX3_lawfulRows 25 = .ok (.ifCond .eq 5, 3) := by decide +kernel
theorem dX3_lawfulRows_28 : decode cX3_lawfulRows 28 = .ok (.iconst 1, 1) := by decide +kernel
theorem dX3_lawfulRows_29 : decode cX3_lawfulRows 29 = .ok (.ireturn, 1) := by decide +kernel
theorem dX3_lawfulRows_30 : decode cX3_lawfulRows 30 = .ok (.iconst 0, 1) := by decide +kernel
theorem dX3_lawfulRows_31 : decode cX3_lawfulRows 31 = .ok (.istore_n 3, 1) := by decide +kernel
theorem dX3_lawfulRows_32 : decode cX3_lawfulRows 32 = .ok (.iconst 1, 1) := by decide +kernel
theorem dX3_lawfulRows_33 : decode cX3_lawfulRows 33 = .ok (.istore 4, 2) := by decide +kernel
theorem dX3_lawfulRows_35 : decode cX3_lawfulRows 35 = .ok (.iconst 0, 1) := by decide +kernel
theorem dX3_lawfulRows_36 : decode cX3_lawfulRows 36 = .ok (.istore 5, 2) := by decide +kernel
theorem dX3_lawfulRows_38 : decode cX3_lawfulRows 38 = .ok (.iload 5, 2) := by decide +kernel
theorem dX3_lawfulRows_40 : decode cX3_lawfulRows 40 = .ok (.iload_n 2, 1) := by decide +kernel
theorem dX3_lawfulRows_41 : decode cX3_lawfulRows 41 = .ok (.if_icmp .gt 53, 3) := by decide +kernel
theorem dX3_lawfulRows_44 : decode cX3_lawfulRows 44 = .ok (.iload 5, 2) := by decide +kernel
theorem dX3_lawfulRows_46 : decode cX3_lawfulRows 46 = .ok (.aload_n 0, 1) := by decide +kernel
theorem dX3_lawfulRows_47 : decode cX3_lawfulRows 47 = .ok (.getfield 54, 3) := by decide +kernel
theorem dX3_lawfulRows_50 : decode cX3_lawfulRows 50 = .ok (.if_icmp .gt 24, 3) := by decide +kernel
theorem dX3_lawfulRows_53 : decode cX3_lawfulRows 53 = .ok (.iload_n 2, 1) := by decide +kernel
theorem dX3_lawfulRows_54 : decode cX3_lawfulRows 54 = .ok (.iload 5, 2) := by decide +kernel
theorem dX3_lawfulRows_56 : decode cX3_lawfulRows 56 = .ok (.isub, 1) := by decide +kernel
theorem dX3_lawfulRows_57 : decode cX3_lawfulRows 57 = .ok (.aload_n 0, 1) := by decide +kernel
theorem dX3_lawfulRows_58 : decode cX3_lawfulRows 58 = .ok (.getfield 51, 3) := by decide +kernel
theorem dX3_lawfulRows_61 : decode cX3_lawfulRows 61 = .ok (.aload_n 0, 1) := by decide +kernel
theorem dX3_lawfulRows_62 : decode cX3_lawfulRows 62 = .ok (.getfield 54, 3) := by decide +kernel
theorem dX3_lawfulRows_65 : decode cX3_lawfulRows 65 = .ok (.isub, 1) := by decide +kernel
theorem dX3_lawfulRows_66 : decode cX3_lawfulRows 66 = .ok (.if_icmp .gt 8, 3) := by decide +kernel
theorem dX3_lawfulRows_69 : decode cX3_lawfulRows 69 = .ok (.iload_n 3, 1) := by decide +kernel
theorem dX3_lawfulRows_70 : decode cX3_lawfulRows 70 = .ok (.iload 4, 2) := by decide +kernel
theorem dX3_lawfulRows_72 : decode cX3_lawfulRows 72 = .ok (.iadd, 1) := by decide +kernel
theorem dX3_lawfulRows_73 : decode cX3_lawfulRows 73 = .ok (.istore_n 3, 1) := by decide +kernel
theorem dX3_lawfulRows_74 : decode cX3_lawfulRows 74 = .ok (.iload 4, 2) := by decide +kernel
theorem dX3_lawfulRows_76 : decode cX3_lawfulRows 76 = .ok (.iload_n 2, 1) := by decide +kernel
theorem dX3_lawfulRows_77 : decode cX3_lawfulRows 77 = .ok (.iload 5, 2) := by decide +kernel
theorem dX3_lawfulRows_79 : decode cX3_lawfulRows 79 = .ok (.isub, 1) := by decide +kernel
theorem dX3_lawfulRows_80 : decode cX3_lawfulRows 80 = .ok (.imul, 1) := by decide +kernel
theorem dX3_lawfulRows_81 : decode cX3_lawfulRows 81 = .ok (.iload 5, 2) := by decide +kernel
theorem dX3_lawfulRows_83 : decode cX3_lawfulRows 83 = .ok (.iconst 1, 1) := by decide +kernel
theorem dX3_lawfulRows_84 : decode cX3_lawfulRows 84 = .ok (.iadd, 1) := by decide +kernel
theorem dX3_lawfulRows_85 : decode cX3_lawfulRows 85 = .ok (.idiv, 1) := by decide +kernel
theorem dX3_lawfulRows_86 : decode cX3_lawfulRows 86 = .ok (.istore 4, 2) := by decide +kernel
theorem dX3_lawfulRows_88 : decode cX3_lawfulRows 88 = .ok (.iinc 5 1, 3) := by decide +kernel
theorem dX3_lawfulRows_91 : decode cX3_lawfulRows 91 = .ok (.goto (-53), 3) := by decide +kernel
theorem dX3_lawfulRows_94 : decode cX3_lawfulRows 94 = .ok (.iload_n 3, 1) := by decide +kernel
theorem dX3_lawfulRows_95 : decode cX3_lawfulRows 95 = .ok (.ireturn, 1) := by decide +kernel
theorem dX4_init_0 : decode cX4_init 0 = .ok (.aload_n 0, 1) := by decide +kernel
theorem dX4_init_1 : decode cX4_init 1 = .ok (.invokespecial 1, 3) := by decide +kernel
theorem dX4_init_4 : decode cX4_init 4 = .ok (.aload_n 0, 1) := by decide +kernel
theorem dX4_init_5 : decode cX4_init 5 = .ok (.new 7, 3) := by decide +kernel
theorem dX4_init_8 : decode cX4_init 8 = .ok (.dup, 1) := by decide +kernel
theorem dX4_init_9 : decode cX4_init 9 = .ok (.invokespecial 9, 3) := by decide +kernel
theorem dX4_init_12 : decode cX4_init 12 = .ok (.putfield 10, 3) := by decide +kernel
theorem dX4_init_15 : decode cX4_init 15 = .ok (.aload_n 0, 1) := by decide +kernel
theorem dX4_init_16 : decode cX4_init 16 = .ok (.new 7, 3) := by decide +kernel
theorem dX4_init_19 : decode cX4_init 19 = .ok (.dup, 1) := by decide +kernel
theorem dX4_init_20 : decode cX4_init 20 = .ok (.invokespecial 9, 3) := by decide +kernel
theorem dX4_init_23 : decode cX4_init 23 = .ok (.putfield 16, 3) := by decide +kernel
theorem dX4_init_26 : decode cX4_init 26 = .ok (.aload_n 0, 1) := by decide +kernel
theorem dX4_init_27 : decode cX4_init 27 = .ok (.new 7, 3) := by decide +kernel
theorem dX4_init_30 : decode cX4_init 30 = .ok (.dup, 1) := by decide +kernel
theorem dX4_init_31 : decode cX4_init 31 = .ok (.invokespecial 9, 3) := by decide +kernel
theorem dX4_init_34 : decode cX4_init 34 = .ok (.putfield 19, 3) := by decide +kernel
theorem dX4_init_37 : decode cX4_init 37 = .ok (.aload_n 0, 1) := by decide +kernel
theorem dX4_init_38 : decode cX4_init 38 = .ok (.bipush 8, 2) := by decide +kernel
theorem dX4_init_40 : decode cX4_init 40 = .ok (.anewarray 22, 3) := by decide +kernel
theorem dX4_init_43 : decode cX4_init 43 = .ok (.putfield 24, 3) := by decide +kernel
theorem dX4_init_46 : decode cX4_init 46 = .ok (.aload_n 0, 1) := by decide +kernel
theorem dX4_init_47 : decode cX4_init 47 = .ok (.new 28, 3) := by decide +kernel
theorem dX4_init_50 : decode cX4_init 50 = .ok (.dup, 1) := by decide +kernel
theorem dX4_init_51 : decode cX4_init 51 = .ok (.invokespecial 30, 3) := by decide +kernel
theorem dX4_init_54 : decode cX4_init 54 = .ok (.putfield 31, 3) := by decide +kernel
theorem dX4_init_57 : decode cX4_init 57 = .ok (.aload_n 0, 1) := by decide +kernel
theorem dX4_init_58 : decode cX4_init 58 = .ok (.new 35, 3) := by decide +kernel
theorem dX4_init_61 : decode cX4_init 61 = .ok (.dup, 1) := by decide +kernel
theorem dX4_init_62 : decode cX4_init 62 = .ok (.invokespecial 37, 3) := by decide +kernel
theorem dX4_init_65 : decode cX4_init 65 = .ok (.putfield 38, 3) := by decide +kernel
theorem dX4_init_68 : decode cX4_init 68 = .ok (.aload_n 0, 1) := by decide +kernel
theorem dX4_init_69 : decode cX4_init 69 = .ok (.bipush 8, 2) := by decide +kernel
theorem dX4_init_71 : decode cX4_init 71 = .ok (.newarray .int, 2) := by decide +kernel
theorem dX4_init_73 : decode cX4_init 73 = .ok (.putfield 42, 3) := by decide +kernel
theorem dX4_init_76 : decode cX4_init 76 = .ok (.aload_n 0, 1) := by decide +kernel
theorem dX4_init_77 : decode cX4_init 77 = .ok (.iconst 0, 1) := by decide +kernel
theorem dX4_init_78 : decode cX4_init 78 = .ok (.putfield 46, 3) := by decide +kernel
theorem dX4_init_81 : decode cX4_init 81 = .ok (.aload_n 0, 1) := by decide +kernel
theorem dX4_init_82 : decode cX4_init 82 = .ok (.iconst (-1), 1) := by decide +kernel
theorem dX4_init_83 : decode cX4_init 83 = .ok (.putfield 50, 3) := by decide +kernel
theorem dX4_init_86 : decode cX4_init 86 = .ok (.iconst 0, 1) := by decide +kernel
theorem dX4_init_87 : decode cX4_init 87 = .ok (.istore_n 1, 1) := by decide +kernel
theorem dX4_init_88 : decode cX4_init 88 = .ok (.iload_n 1, 1) := by decide +kernel
theorem dX4_init_89 : decode cX4_init 89 = .ok (.bipush 8, 2) := by decide +kernel
theorem dX4_init_91 : decode cX4_init 91 = .ok (.if_icmp .ge 22, 3) := by decide +kernel
theorem dX4_init_94 : decode cX4_init 94 = .ok (.aload_n 0, 1) := by decide +kernel
theorem dX4_init_95 : decode cX4_init 95 = .ok (.getfield 24, 3) := by decide +kernel
theorem dX4_init_98 : decode cX4_init 98 = .ok (.iload_n 1, 1) := by decide +kernel
theorem dX4_init_99 : decode cX4_init 99 = .ok (.new 22, 3) := by decide +kernel
theorem dX4_init_102 : decode cX4_init 102 = .ok (.dup, 1) := by decide +kernel
theorem dX4_init_103 : decode cX4_init 103 = .ok (.invokespecial 54, 3) := by decide +kernel
theorem dX4_init_106 : decode cX4_init 106 = .ok (.aastore, 1) := by decide +kernel
theorem dX4_init_107 : decode cX4_init 107 = .ok (.iinc 1 1, 3) := by decide +kernel
theorem dX4_init_110 : decode cX4_init 110 = .ok (.goto (-22), 3) := by decide +kernel
theorem dX4_init_113 : decode cX4_init 113 = .ok (.return_, 1) := by decide +kernel
theorem dX4_refuse_0 : decode cX4_refuse 0 = .ok (.aload_n 0, 1) := by decide +kernel
theorem dX4_refuse_1 : decode cX4_refuse 1 = .ok (.iload_n 1, 1) := by decide +kernel
theorem dX4_refuse_2 : decode cX4_refuse 2 = .ok (.iload_n 1, 1) := by decide +kernel
theorem dX4_refuse_3 : decode cX4_refuse 3 = .ok (.invokevirtual 55, 3) := by decide +kernel
theorem dX4_refuse_6 : decode cX4_refuse 6 = .ok (.ireturn, 1) := by decide +kernel
theorem dX4_refuse__0 : decode cX4_refuse_ 0 = .ok (.iload_n 1, 1) := by decide +kernel
theorem dX4_refuse__1 : decode cX4_refuse_ 1 = .ok (.ineg, 1) := by decide +kernel
theorem dX4_refuse__2 : decode cX4_refuse_ 2 = .ok (.istore_n 3, 1) := by decide +kernel
theorem dX4_refuse__3 : decode cX4_refuse_ 3 = .ok (.iload_n 3, 1) := by decide +kernel
theorem dX4_refuse__4 : decode cX4_refuse_ 4 = .ok (.ifCond .le 22, 3) := by decide +kernel
theorem dX4_refuse__7 : decode cX4_refuse_ 7 = .ok (.iload_n 3, 1) := by decide +kernel
theorem dX4_refuse__8 : decode cX4_refuse_ 8 = .ok (.aload_n 0, 1) := by decide +kernel
theorem dX4_refuse__9 : decode cX4_refuse_ 9 = .ok (.getfield 42, 3) := by decide +kernel
theorem dX4_refuse__12 : decode cX4_refuse_ 12 = .ok (.arraylength, 1) := by decide +kernel
theorem dX4_refuse__13 : decode cX4_refuse_ 13 = .ok (.if_icmp .ge 13, 3) := by decide +kernel
theorem dX4_refuse__16 : decode cX4_refuse_ 16 = .ok (.aload_n 0, 1) := by decide +kernel
theorem dX4_refuse__17 : decode cX4_refuse_ 17 = .ok (.getfield 42, 3) := by decide +kernel
theorem dX4_refuse__20 : decode cX4_refuse_ 20 = .ok (.iload_n 3, 1) := by decide +kernel
theorem dX4_refuse__21 : decode cX4_refuse_ 21 = .ok (.dup2, 1) := by decide +kernel
theorem dX4_refuse__22 : decode cX4_refuse_ 22 = .ok (.iaload, 1) := by decide +kernel
theorem dX4_refuse__23 : decode cX4_refuse_ 23 = .ok (.iconst 1, 1) := by decide +kernel
theorem dX4_refuse__24 : decode cX4_refuse_ 24 = .ok (.iadd, 1) := by decide +kernel
theorem dX4_refuse__25 : decode cX4_refuse_ 25 = .ok (.iastore, 1) := by decide +kernel
theorem dX4_refuse__26 : decode cX4_refuse_ 26 = .ok (.iload_n 2, 1) := by decide +kernel
theorem dX4_refuse__27 : decode cX4_refuse_ 27 = .ok (.ireturn, 1) := by decide +kernel
theorem dX4_isShelf_0 : decode cX4_isShelf 0 = .ok (.iload_n 0, 1) := by decide +kernel
theorem dX4_isShelf_1 : decode cX4_isShelf 1 = .ok (.ifCond .lt 13, 3) := by decide +kernel
theorem dX4_isShelf_4 : decode cX4_isShelf 4 = .ok (.iload_n 0, 1) := by decide +kernel
theorem dX4_isShelf_5 : decode cX4_isShelf 5 = .ok (.bipush 8, 2) := by decide +kernel
theorem dX4_isShelf_7 : decode cX4_isShelf 7 = .ok (.if_icmp .ge 7, 3) := by decide +kernel
theorem dX4_isShelf_10 : decode cX4_isShelf 10 = .ok (.iconst 1, 1) := by decide +kernel
theorem dX4_isShelf_11 : decode cX4_isShelf 11 = .ok (.goto 4, 3) := by decide +kernel
theorem dX4_isShelf_14 : decode cX4_isShelf 14 = .ok (.iconst 0, 1) := by decide +kernel
theorem dX4_isShelf_15 : decode cX4_isShelf 15 = .ok (.ireturn, 1) := by decide +kernel
theorem dX4_isKind_0 : decode cX4_isKind 0 = .ok (.iload_n 0, 1) := by decide +kernel
theorem dX4_isKind_1 : decode cX4_isKind 1 = .ok (.ifCond .lt 13, 3) := by decide +kernel
theorem dX4_isKind_4 : decode cX4_isKind 4 = .ok (.iload_n 0, 1) := by decide +kernel
theorem dX4_isKind_5 : decode cX4_isKind 5 = .ok (.bipush 6, 2) := by decide +kernel
theorem dX4_isKind_7 : decode cX4_isKind 7 = .ok (.if_icmp .gt 7, 3) := by decide +kernel
theorem dX4_isKind_10 : decode cX4_isKind 10 = .ok (.iconst 1, 1) := by decide +kernel
theorem dX4_isKind_11 : decode cX4_isKind 11 = .ok (.goto 4, 3) := by decide +kernel
theorem dX4_isKind_14 : decode cX4_isKind 14 = .ok (.iconst 0, 1) := by decide +kernel
theorem dX4_isKind_15 : decode cX4_isKind 15 = .ok (.ireturn, 1) := by decide +kernel
theorem dX4_truthOf_0 : decode cX4_truthOf 0 = .ok (.iload_n 1, 1) := by decide +kernel
theorem dX4_truthOf_1 : decode cX4_truthOf 1 = .ok (.ifCond .eq 11, 3) := by decide +kernel
theorem dX4_truthOf_4 : decode cX4_truthOf 4 = .ok (.getstatic 59, 3) := by decide +kernel
theorem dX4_truthOf_7 : decode cX4_truthOf 7 = .ok (.iload_n 0, 1) := by decide +kernel
theorem dX4_truthOf_8 : decode cX4_truthOf 8 = .ok (.laload, 1) := by decide +kernel
theorem dX4_truthOf_9 : decode cX4_truthOf 9 = .ok (.goto 12, 3) := by decide +kernel
theorem dX4_truthOf_12 : decode cX4_truthOf 12 = .ok (.getstatic 59, 3) := by decide +kernel
theorem dX4_truthOf_15 : decode cX4_truthOf 15 = .ok (.iload_n 0, 1) := by decide +kernel
theorem dX4_truthOf_16 : decode cX4_truthOf 16 = .ok (.laload, 1) := by decide +kernel
theorem dX4_truthOf_17 : decode cX4_truthOf 17 = .ok (.ldc2_w 63, 3) := by decide +kernel
theorem dX4_truthOf_20 : decode cX4_truthOf 20 = .ok (.lxor, 1) := by decide +kernel
theorem dX4_truthOf_21 : decode cX4_truthOf 21 = .ok (.lreturn, 1) := by decide +kernel
theorem dX4_within_0 : decode cX4_within 0 = .ok (.iload_n 0, 1) := by decide +kernel
theorem dX4_within_1 : decode cX4_within 1 = .ok (.iload_n 1, 1) := by decide +kernel
theorem dX4_within_2 : decode cX4_within 2 = .ok (.if_icmp .lt 12, 3) := by decide +kernel
theorem dX4_within_5 : decode cX4_within 5 = .ok (.iload_n 0, 1) := by decide +kernel
theorem dX4_within_6 : decode cX4_within 6 = .ok (.iload_n 2, 1) := by decide +kernel
theorem dX4_within_7 : decode cX4_within 7 = .ok (.if_icmp .gt 7, 3) := by decide +kernel
theorem dX4_within_10 : decode cX4_within 10 = .ok (.iconst 1, 1) := by decide +kernel
theorem dX4_within_11 : decode cX4_within 11 = .ok (.goto 4, 3) := by decide +kernel
theorem dX4_within_14 : decode cX4_within 14 = .ok (.iconst 0, 1) := by decide +kernel
theorem dX4_within_15 : decode cX4_within 15 = .ok (.ireturn, 1) := by decide +kernel
theorem dX4_isUnder_0 : decode cX4_isUnder 0 = .ok (.iload_n 0, 1) := by decide +kernel
theorem dX4_isUnder_1 : decode cX4_isUnder 1 = .ok (.istore_n 2, 1) := by decide +kernel
theorem dX4_isUnder_2 : decode cX4_isUnder 2 = .ok (.iconst 0, 1) := by decide +kernel
theorem dX4_isUnder_3 : decode cX4_isUnder 3 = .ok (.istore_n 3, 1) := by decide +kernel
theorem dX4_isUnder_4 : decode cX4_isUnder 4 = .ok (.iload_n 3, 1) := by decide +kernel
theorem dX4_isUnder_5 : decode cX4_isUnder 5 = .ok (.getstatic 65, 3) := by decide +kernel
theorem dX4_isUnder_8 : decode cX4_isUnder 8 = .ok (.arraylength, 1) := by decide +kernel
theorem dX4_isUnder_9 : decode cX4_isUnder 9 = .ok (.if_icmp .ge 29, 3) := by decide +kernel
theorem dX4_isUnder_12 : decode cX4_isUnder 12 = .ok (.iload_n 2, 1) := by decide +kernel
theorem dX4_isUnder_13 : decode cX4_isUnder 13 = .ok (.invokestatic 68, 3) := by decide +kernel
theorem dX4_isUnder_16 : decode cX4_isUnder 16 = .ok (.ifCond .eq 22, 3) := by decide +kernel
theorem dX4_isUnder_19 : decode cX4_isUnder 19 = .ok (.iload_n 2, 1) := by decide +kernel
theorem dX4_isUnder_20 : decode cX4_isUnder 20 = .ok (.iload_n 1, 1) := by decide +kernel
theorem dX4_isUnder_21 : decode cX4_isUnder 21 = .ok (.if_icmp .ne 5, 3) := by decide +kernel
theorem dX4_isUnder_24 : decode cX4_isUnder 24 = .ok (.iconst 1, 1) := by decide +kernel
theorem dX4_isUnder_25 : decode cX4_isUnder 25 = .ok (.ireturn, 1) := by decide +kernel
theorem dX4_isUnder_26 : decode cX4_isUnder 26 = .ok (.getstatic 65, 3) := by decide +kernel
theorem dX4_isUnder_29 : decode cX4_isUnder 29 = .ok (.iload_n 2, 1) := by decide +kernel
theorem dX4_isUnder_30 : decode cX4_isUnder 30 = .ok (.iaload, 1) := by decide +kernel
theorem dX4_isUnder_31 : decode cX4_isUnder 31 = .ok (.istore_n 2, 1) := by decide +kernel
theorem dX4_isUnder_32 : decode cX4_isUnder 32 = .ok (.iinc 3 1, 3) := by decide +kernel
theorem dX4_isUnder_35 : decode cX4_isUnder 35 = .ok (.goto (-31), 3) := by decide +kernel
theorem dX4_isUnder_38 : decode cX4_isUnder 38 = .ok (.iconst 0, 1) := by decide +kernel
theorem dX4_isUnder_39 : decode cX4_isUnder 39 = .ok (.ireturn, 1) := by decide +kernel
theorem dX4_noRow_0 : decode cX4_noRow 0 = .ok (.iload_n 1, 1) := by decide +kernel
theorem dX4_noRow_1 : decode cX4_noRow 1 = .ok (.invokestatic 72, 3) := by decide +kernel
theorem dX4_noRow_4 : decode cX4_noRow 4 = .ok (.ifCond .ne 5, 3) := by decide +kernel
theorem dX4_noRow_7 : decode cX4_noRow 7 = .ok (.iconst (-1), 1) := by decide +kernel
theorem dX4_noRow_8 : decode cX4_noRow 8 = .ok (.ireturn, 1) := by decide +kernel
theorem dX4_noRow_9 : decode cX4_noRow 9 = .ok (.aload_n 0, 1) := by decide +kernel
theorem dX4_noRow_10 : decode cX4_noRow 10 = .ok (.getfield 24, 3) := by decide +kernel
theorem dX4_noRow_13 : decode cX4_noRow 13 = .ok (.iload_n 1, 1) := by decide +kernel
theorem dX4_noRow_14 : decode cX4_noRow 14 = .ok (.aaload, 1) := by decide +kernel
theorem dX4_noRow_15 : decode cX4_noRow 15 = .ok (.invokevirtual 75, 3) := by decide +kernel
theorem dX4_noRow_18 : decode cX4_noRow 18 = .ok (.ifCond .eq 6, 3) := by decide +kernel
theorem dX4_noRow_21 : decode cX4_noRow 21 = .ok (.bipush (-2), 2) := by decide +kernel
theorem dX4_noRow_23 : decode cX4_noRow 23 = .ok (.ireturn, 1) := by decide +kernel
theorem dX4_noRow_24 : decode cX4_noRow 24 = .ok (.aload_n 0, 1) := by decide +kernel
theorem dX4_noRow_25 : decode cX4_noRow 25 = .ok (.getfield 24, 3) := by decide +kernel
theorem dX4_noRow_28 : decode cX4_noRow 28 = .ok (.iload_n 1, 1) := by decide +kernel
theorem dX4_noRow_29 : decode cX4_noRow 29 = .ok (.aaload, 1) := by decide +kernel
theorem dX4_noRow_30 : decode cX4_noRow 30 = .ok (.invokevirtual 79, 3) := by decide +kernel
theorem dX4_noRow_33 : decode cX4_noRow 33 = .ok (.ifCond .eq 7, 3) := by decide +kernel
theorem dX4_noRow_36 : decode cX4_noRow 36 = .ok (.iconst 0, 1) := by decide +kernel
theorem dX4_noRow_37 : decode cX4_noRow 37 = .ok (.goto 5, 3) := by decide +kernel
theorem dX4_noRow_40 : decode cX4_noRow 40 = .ok (.bipush (-3), 2) := by decide +kernel
theorem dX4_noRow_42 : decode cX4_noRow 42 = .ok (.ireturn, 1) := by decide +kernel
theorem dX4_row_0 : decode cX4_row 0 = .ok (.iload_n 1, 1) := by decide +kernel
theorem dX4_row_1 : decode cX4_row 1 = .ok (.invokestatic 72, 3) := by decide +kernel
theorem dX4_row_4 : decode cX4_row 4 = .ok (.ifCond .ne 9, 3) := by decide +kernel
theorem dX4_row_7 : decode cX4_row 7 = .ok (.aload_n 0, 1) := by decide +kernel
theorem dX4_row_8 : decode cX4_row 8 = .ok (.iconst (-1), 1) := by decide +kernel
theorem dX4_row_9 : decode cX4_row 9 = .ok (.invokevirtual 82, 3) := by decide +kernel
theorem dX4_row_12 : decode cX4_row 12 = .ok (.ireturn, 1) := by decide +kernel
theorem dX4_row_13 : decode cX4_row 13 = .ok (.iload_n 3, 1) := by decide +kernel
theorem dX4_row_14 : decode cX4_row 14 = .ok (.ifCond .ge 10, 3) := by decide +kernel
theorem dX4_row_17 : decode cX4_row 17 = .ok (.aload_n 0, 1) := by decide +kernel
theorem dX4_row_18 : decode cX4_row 18 = .ok (.bipush (-4), 2) := by decide +kernel
theorem dX4_row_20 : decode cX4_row 20 = .ok (.invokevirtual 82, 3) := by decide +kernel
theorem dX4_row_23 : decode cX4_row 23 = .ok (.ireturn, 1) := by decide +kernel
theorem dX4_row_24 : decode cX4_row 24 = .ok (.iload_n 2, 1) := by decide +kernel
theorem dX4_row_25 : decode cX4_row 25 = .ok (.iconst 0, 1) := by decide +kernel
theorem dX4_row_26 : decode cX4_row 26 = .ok (.iconst 3, 1) := by decide +kernel
theorem dX4_row_27 : decode cX4_row 27 = .ok (.invokestatic 85, 3) := by decide +kernel
theorem dX4_row_30 : decode cX4_row 30 = .ok (.ifCond .ne 10, 3) := by decide +kernel
theorem dX4_row_33 : decode cX4_row 33 = .ok (.aload_n 0, 1) := by decide +kernel
theorem dX4_row_34 : decode cX4_row 34 = .ok (.bipush (-6), 2) := by decide +kernel
theorem dX4_row_36 : decode cX4_row 36 = .ok (.invokevirtual 82, 3) := by decide +kernel
theorem dX4_row_39 : decode cX4_row 39 = .ok (.ireturn, 1) := by decide +kernel
theorem dX4_row_40 : decode cX4_row 40 = .ok (.iload_n 3, 1) := by decide +kernel
theorem dX4_row_41 : decode cX4_row 41 = .ok (.sipush 160, 3) := by decide +kernel
theorem dX4_row_44 : decode cX4_row 44 = .ok (.if_icmp .le 10, 3) := by decide +kernel
theorem dX4_row_47 : decode cX4_row 47 = .ok (.aload_n 0, 1) := by decide +kernel
theorem dX4_row_48 : decode cX4_row 48 = .ok (.bipush (-7), 2) := by decide +kernel
theorem dX4_row_50 : decode cX4_row 50 = .ok (.invokevirtual 82, 3) := by decide +kernel
theorem dX4_row_53 : decode cX4_row 53 = .ok (.ireturn, 1) := by decide +kernel
theorem dX4_row_54 : decode cX4_row 54 = .ok (.aload_n 0, 1) := by decide +kernel
theorem dX4_row_55 : decode cX4_row 55 = .ok (.getfield 24, 3) := by decide +kernel
theorem dX4_row_58 : decode cX4_row 58 = .ok (.iload_n 1, 1) := by decide +kernel
theorem dX4_row_59 : decode cX4_row 59 = .ok (.aaload, 1) := by decide +kernel
theorem dX4_row_60 : decode cX4_row 60 = .ok (.iload_n 2, 1) := by decide +kernel
theorem dX4_row_61 : decode cX4_row 61 = .ok (.iload_n 3, 1) := by decide +kernel
theorem dX4_row_62 : decode cX4_row 62 = .ok (.invokevirtual 89, 3) := by decide +kernel
theorem dX4_row_65 : decode cX4_row 65 = .ok (.iconst 1, 1) := by decide +kernel
theorem dX4_row_66 : decode cX4_row 66 = .ok (.ireturn, 1) := by decide +kernel
theorem dX4_set_0 : decode cX4_set 0 = .ok (.aload_n 0, 1) := by decide +kernel
theorem dX4_set_1 : decode cX4_set 1 = .ok (.iload_n 1, 1) := by decide +kernel
theorem dX4_set_2 : decode cX4_set 2 = .ok (.invokevirtual 93, 3) := by decide +kernel
theorem dX4_set_5 : decode cX4_set 5 = .ok (.istore 5, 2) := by decide +kernel
theorem dX4_set_7 : decode cX4_set 7 = .ok (.iload 5, 2) := by decide +kernel
theorem dX4_set_9 : decode cX4_set 9 = .ok (.ifCond .eq 10, 3) := by decide +kernel
theorem dX4_set_12 : decode cX4_set 12 = .ok (.aload_n 0, 1) := by decide +kernel
theorem dX4_set_13 : decode cX4_set 13 = .ok (.iload 5, 2) := by decide +kernel
theorem dX4_set_15 : decode cX4_set 15 = .ok (.invokevirtual 82, 3) := by decide +kernel
theorem dX4_set_18 : decode cX4_set 18 = .ok (.ireturn, 1) := by decide +kernel
theorem dX4_set_19 : decode cX4_set 19 = .ok (.aload_n 0, 1) := by decide +kernel
theorem dX4_set_20 : decode cX4_set 20 = .ok (.getfield 24, 3) := by decide +kernel
theorem dX4_set_23 : decode cX4_set 23 = .ok (.iload_n 1, 1) := by decide +kernel
theorem dX4_set_24 : decode cX4_set 24 = .ok (.aaload, 1) := by decide +kernel
theorem dX4_set_25 : decode cX4_set 25 = .ok (.iload_n 2, 1) := by decide +kernel
theorem dX4_set_26 : decode cX4_set 26 = .ok (.invokevirtual 96, 3) := by decide +kernel
theorem dX4_set_29 : decode cX4_set 29 = .ok (.ifCond .ne 10, 3) := by decide +kernel
theorem dX4_set_32 : decode cX4_set 32 = .ok (.aload_n 0, 1) := by decide +kernel
theorem dX4_set_33 : decode cX4_set 33 = .ok (.bipush (-5), 2) := by decide +kernel
theorem dX4_set_35 : decode cX4_set 35 = .ok (.invokevirtual 82, 3) := by decide +kernel
theorem dX4_set_38 : decode cX4_set 38 = .ok (.ireturn, 1) := by decide +kernel
theorem dX4_set_39 : decode cX4_set 39 = .ok (.aload_n 0, 1) := by decide +kernel
theorem dX4_set_40 : decode cX4_set 40 = .ok (.getfield 24, 3) := by decide +kernel
theorem dX4_set_43 : decode cX4_set 43 = .ok (.iload_n 1, 1) := by decide +kernel
theorem dX4_set_44 : decode cX4_set 44 = .ok (.aaload, 1) := by decide +kernel
theorem dX4_set_45 : decode cX4_set 45 = .ok (.iload_n 2, 1) := by decide +kernel
theorem dX4_set_46 : decode cX4_set 46 = .ok (.lload_n 3, 1) := by decide +kernel
theorem dX4_set_47 : decode cX4_set 47 = .ok (.invokevirtual 99, 3) := by decide +kernel
theorem dX4_set_50 : decode cX4_set 50 = .ok (.iconst 1, 1) := by decide +kernel
theorem dX4_set_51 : decode cX4_set 51 = .ok (.ireturn, 1) := by decide +kernel
theorem dX4_copy_0 : decode cX4_copy 0 = .ok (.iload_n 1, 1) := by decide +kernel
theorem dX4_copy_1 : decode cX4_copy 1 = .ok (.invokestatic 72, 3) := by decide +kernel
theorem dX4_copy_4 : decode cX4_copy 4 = .ok (.ifCond .eq 10, 3) := by decide +kernel
theorem dX4_copy_7 : decode cX4_copy 7 = .ok (.iload_n 2, 1) := by decide +kernel
theorem dX4_copy_8 : decode cX4_copy 8 = .ok (.invokestatic 72, 3) := by decide +kernel
theorem dX4_copy_11 : decode cX4_copy 11 = .ok (.ifCond .ne 9, 3) := by decide +kernel
theorem dX4_copy_14 : decode cX4_copy 14 = .ok (.aload_n 0, 1) := by decide +kernel
theorem dX4_copy_15 : decode cX4_copy 15 = .ok (.iconst (-1), 1) := by decide +kernel
theorem dX4_copy_16 : decode cX4_copy 16 = .ok (.invokevirtual 82, 3) := by decide +kernel
theorem dX4_copy_19 : decode cX4_copy 19 = .ok (.ireturn, 1) := by decide +kernel
theorem dX4_copy_20 : decode cX4_copy 20 = .ok (.aload_n 0, 1) := by decide +kernel
theorem dX4_copy_21 : decode cX4_copy 21 = .ok (.getfield 24, 3) := by decide +kernel
theorem dX4_copy_24 : decode cX4_copy 24 = .ok (.iload_n 1, 1) := by decide +kernel
theorem dX4_copy_25 : decode cX4_copy 25 = .ok (.aaload, 1) := by decide +kernel
theorem dX4_copy_26 : decode cX4_copy 26 = .ok (.astore 6, 2) := by decide +kernel
theorem dX4_copy_28 : decode cX4_copy 28 = .ok (.aload_n 0, 1) := by decide +kernel
theorem dX4_copy_29 : decode cX4_copy 29 = .ok (.getfield 24, 3) := by decide +kernel
theorem dX4_copy_32 : decode cX4_copy 32 = .ok (.iload_n 2, 1) := by decide +kernel
theorem dX4_copy_33 : decode cX4_copy 33 = .ok (.aaload, 1) := by decide +kernel
theorem dX4_copy_34 : decode cX4_copy 34 = .ok (.astore 7, 2) := by decide +kernel
theorem dX4_copy_36 : decode cX4_copy 36 = .ok (.aload 6, 2) := by decide +kernel
theorem dX4_copy_38 : decode cX4_copy 38 = .ok (.invokevirtual 75, 3) := by decide +kernel
theorem dX4_copy_41 : decode cX4_copy 41 = .ok (.ifCond .ne 40, 3) := by decide +kernel
theorem dX4_copy_44 : decode cX4_copy 44 = .ok (.aload 7, 2) := by decide +kernel
theorem dX4_copy_46 : decode cX4_copy 46 = .ok (.invokevirtual 75, 3) := by decide +kernel
theorem dX4_copy_49 : decode cX4_copy 49 = .ok (.ifCond .ne 32, 3) := by decide +kernel
theorem dX4_copy_52 : decode cX4_copy 52 = .ok (.aload 6, 2) := by decide +kernel
theorem dX4_copy_54 : decode cX4_copy 54 = .ok (.invokevirtual 79, 3) := by decide +kernel
theorem dX4_copy_57 : decode cX4_copy 57 = .ok (.ifCond .eq 31, 3) := by decide +kernel
theorem dX4_copy_60 : decode cX4_copy 60 = .ok (.aload 7, 2) := by decide +kernel
theorem dX4_copy_62 : decode cX4_copy 62 = .ok (.invokevirtual 79, 3) := by decide +kernel
theorem dX4_copy_65 : decode cX4_copy 65 = .ok (.ifCond .eq 23, 3) := by decide +kernel
theorem dX4_copy_68 : decode cX4_copy 68 = .ok (.aload 6, 2) := by decide +kernel
theorem dX4_copy_70 : decode cX4_copy 70 = .ok (.getfield 103, 3) := by decide +kernel
theorem dX4_copy_73 : decode cX4_copy 73 = .ok (.aload 7, 2) := by decide +kernel
theorem dX4_copy_75 : decode cX4_copy 75 = .ok (.getfield 103, 3) := by decide +kernel
theorem dX4_copy_78 : decode cX4_copy 78 = .ok (.if_icmp .eq 10, 3) := by decide +kernel
theorem dX4_copy_81 : decode cX4_copy 81 = .ok (.aload_n 0, 1) := by decide +kernel
theorem dX4_copy_82 : decode cX4_copy 82 = .ok (.bipush (-2), 2) := by decide +kernel
theorem dX4_copy_84 : decode cX4_copy 84 = .ok (.invokevirtual 82, 3) := by decide +kernel
theorem dX4_copy_87 : decode cX4_copy 87 = .ok (.ireturn, 1) := by decide +kernel
theorem dX4_copy_88 : decode cX4_copy 88 = .ok (.aload 6, 2) := by decide +kernel
theorem dX4_copy_90 : decode cX4_copy 90 = .ok (.invokevirtual 79, 3) := by decide +kernel
theorem dX4_copy_93 : decode cX4_copy 93 = .ok (.ifCond .eq 11, 3) := by decide +kernel
theorem dX4_copy_96 : decode cX4_copy 96 = .ok (.aload 7, 2) := by decide +kernel
theorem dX4_copy_98 : decode cX4_copy 98 = .ok (.invokevirtual 79, 3) := by decide +kernel
theorem dX4_copy_101 : decode cX4_copy 101 = .ok (.ifCond .ne 10, 3) := by decide +kernel
theorem dX4_copy_104 : decode cX4_copy 104 = .ok (.aload_n 0, 1) := by decide +kernel
theorem dX4_copy_105 : decode cX4_copy 105 = .ok (.bipush (-3), 2) := by decide +kernel
theorem dX4_copy_107 : decode cX4_copy 107 = .ok (.invokevirtual 82, 3) := by decide +kernel
theorem dX4_copy_110 : decode cX4_copy 110 = .ok (.ireturn, 1) := by decide +kernel
theorem dX4_copy_111 : decode cX4_copy 111 = .ok (.iload 5, 2) := by decide +kernel
theorem dX4_copy_113 : decode cX4_copy 113 = .ok (.ifCond .ge 10, 3) := by decide +kernel
theorem dX4_copy_116 : decode cX4_copy 116 = .ok (.aload_n 0, 1) := by decide +kernel
theorem dX4_copy_117 : decode cX4_copy 117 = .ok (.bipush (-4), 2) := by decide +kernel
theorem dX4_copy_119 : decode cX4_copy 119 = .ok (.invokevirtual 82, 3) := by decide +kernel
theorem dX4_copy_122 : decode cX4_copy 122 = .ok (.ireturn, 1) := by decide +kernel
theorem dX4_copy_123 : decode cX4_copy 123 = .ok (.aload 6, 2) := by decide +kernel
theorem dX4_copy_125 : decode cX4_copy 125 = .ok (.iload_n 3, 1) := by decide +kernel
theorem dX4_copy_126 : decode cX4_copy 126 = .ok (.iload 5, 2) := by decide +kernel
theorem dX4_copy_128 : decode cX4_copy 128 = .ok (.invokevirtual 106, 3) := by decide +kernel
theorem dX4_copy_131 : decode cX4_copy 131 = .ok (.ifCond .eq 15, 3) := by decide +kernel
theorem dX4_copy_134 : decode cX4_copy 134 = .ok (.aload 7, 2) := by decide +kernel
theorem dX4_copy_136 : decode cX4_copy 136 = .ok (.iload 4, 2) := by decide +kernel
theorem dX4_copy_138 : decode cX4_copy 138 = .ok (.iload 5, 2) := by decide +kernel
theorem dX4_copy_140 : decode cX4_copy 140 = .ok (.invokevirtual 106, 3) := by decide +kernel
theorem dX4_copy_143 : decode cX4_copy 143 = .ok (.ifCond .ne 10, 3) := by decide +kernel
theorem dX4_copy_146 : decode cX4_copy 146 = .ok (.aload_n 0, 1) := by decide +kernel
theorem dX4_copy_147 : decode cX4_copy 147 = .ok (.bipush (-5), 2) := by decide +kernel
theorem dX4_copy_149 : decode cX4_copy 149 = .ok (.invokevirtual 82, 3) := by decide +kernel
theorem dX4_copy_152 : decode cX4_copy 152 = .ok (.ireturn, 1) := by decide +kernel
theorem dX4_copy_153 : decode cX4_copy 153 = .ok (.aload 6, 2) := by decide +kernel
theorem dX4_copy_155 : decode cX4_copy 155 = .ok (.getfield 110, 3) := by decide +kernel
theorem dX4_copy_158 : decode cX4_copy 158 = .ok (.iload_n 3, 1) := by decide +kernel
theorem dX4_copy_159 : decode cX4_copy 159 = .ok (.aload 7, 2) := by decide +kernel
theorem dX4_copy_161 : decode cX4_copy 161 = .ok (.getfield 110, 3) := by decide +kernel
theorem dX4_copy_164 : decode cX4_copy 164 = .ok (.iload 4, 2) := by decide +kernel
theorem dX4_copy_166 : decode cX4_copy 166 = .ok (.iload 5, 2) := by decide +kernel
theorem dX4_copy_168 : decode cX4_copy 168 = .ok (.invokestatic 113, 3) := by decide +kernel
theorem dX4_copy_171 : decode cX4_copy 171 = .ok (.iconst 1, 1) := by decide +kernel
theorem dX4_copy_172 : decode cX4_copy 172 = .ok (.ireturn, 1) := by decide +kernel
theorem dX4_element_0 : decode cX4_element 0 = .ok (.iload_n 1, 1) := by decide +kernel
theorem dX4_element_1 : decode cX4_element 1 = .ok (.invokestatic 72, 3) := by decide +kernel
theorem dX4_element_4 : decode cX4_element 4 = .ok (.ifCond .eq 30, 3) := by decide +kernel
theorem dX4_element_7 : decode cX4_element 7 = .ok (.aload_n 0, 1) := by decide +kernel
theorem dX4_element_8 : decode cX4_element 8 = .ok (.getfield 24, 3) := by decide +kernel
theorem dX4_element_11 : decode cX4_element 11 = .ok (.iload_n 1, 1) := by decide +kernel
theorem dX4_element_12 : decode cX4_element 12 = .ok (.aaload, 1) := by decide +kernel
theorem dX4_element_13 : decode cX4_element 13 = .ok (.iload_n 2, 1) := by decide +kernel
theorem dX4_element_14 : decode cX4_element 14 = .ok (.invokevirtual 96, 3) := by decide +kernel
theorem dX4_element_17 : decode cX4_element 17 = .ok (.ifCond .eq 17, 3) := by decide +kernel
theorem dX4_element_20 : decode cX4_element 20 = .ok (.aload_n 0, 1) := by decide +kernel
theorem dX4_element_21 : decode cX4_element 21 = .ok (.getfield 24, 3) := by decide +kernel
theorem dX4_element_24 : decode cX4_element 24 = .ok (.iload_n 1, 1) := by decide +kernel
theorem dX4_element_25 : decode cX4_element 25 = .ok (.aaload, 1) := by decide +kernel
theorem dX4_element_26 : decode cX4_element 26 = .ok (.getfield 110, 3) := by decide +kernel
theorem dX4_element_29 : decode cX4_element 29 = .ok (.iload_n 2, 1) := by decide +kernel
theorem dX4_element_30 : decode cX4_element 30 = .ok (.laload, 1) := by decide +kernel
theorem dX4_element_31 : decode cX4_element 31 = .ok (.goto 4, 3) := by decide +kernel
theorem dX4_element_34 : decode cX4_element 34 = .ok (.lconst 0, 1) := by decide +kernel
theorem dX4_element_35 : decode cX4_element 35 = .ok (.lreturn, 1) := by decide +kernel
theorem dX4_show_0 : decode cX4_show 0 = .ok (.iload_n 1, 1) := by decide +kernel
theorem dX4_show_1 : decode cX4_show 1 = .ok (.invokestatic 72, 3) := by decide +kernel
theorem dX4_show_4 : decode cX4_show 4 = .ok (.ifCond .eq 19, 3) := by decide +kernel
theorem dX4_show_7 : decode cX4_show 7 = .ok (.iload_n 2, 1) := by decide +kernel
theorem dX4_show_8 : decode cX4_show 8 = .ok (.iconst (-1), 1) := by decide +kernel
theorem dX4_show_9 : decode cX4_show 9 = .ok (.if_icmp .eq 20, 3) := by decide +kernel
theorem dX4_show_12 : decode cX4_show 12 = .ok (.aload_n 0, 1) := by decide +kernel
theorem dX4_show_13 : decode cX4_show 13 = .ok (.getfield 10, 3) := by decide +kernel
theorem dX4_show_16 : decode cX4_show 16 = .ok (.iload_n 2, 1) := by decide +kernel
theorem dX4_show_17 : decode cX4_show 17 = .ok (.invokevirtual 119, 3) := by decide +kernel
theorem dX4_show_20 : decode cX4_show 20 = .ok (.ifCond .ne 9, 3) := by decide +kernel
theorem dX4_show_23 : decode cX4_show 23 = .ok (.aload_n 0, 1) := by decide +kernel
theorem dX4_show_24 : decode cX4_show 24 = .ok (.iconst (-1), 1) := by decide +kernel
theorem dX4_show_25 : decode cX4_show 25 = .ok (.invokevirtual 82, 3) := by decide +kernel
theorem dX4_show_28 : decode cX4_show 28 = .ok (.ireturn, 1) := by decide +kernel
theorem dX4_show_29 : decode cX4_show 29 = .ok (.aload_n 0, 1) := by decide +kernel
theorem dX4_show_30 : decode cX4_show 30 = .ok (.getfield 24, 3) := by decide +kernel
theorem dX4_show_33 : decode cX4_show 33 = .ok (.iload_n 1, 1) := by decide +kernel
theorem dX4_show_34 : decode cX4_show 34 = .ok (.aaload, 1) := by decide +kernel
theorem dX4_show_35 : decode cX4_show 35 = .ok (.iload_n 2, 1) := by decide +kernel
theorem dX4_show_36 : decode cX4_show 36 = .ok (.putfield 103, 3) := by decide +kernel
theorem dX4_show_39 : decode cX4_show 39 = .ok (.iload_n 2, 1) := by decide +kernel
theorem dX4_show_40 : decode cX4_show 40 = .ok (.iconst (-1), 1) := by decide +kernel
theorem dX4_show_41 : decode cX4_show 41 = .ok (.if_icmp .ne 7, 3) := by decide +kernel
theorem dX4_show_44 : decode cX4_show 44 = .ok (.iconst 0, 1) := by decide +kernel
theorem dX4_show_45 : decode cX4_show 45 = .ok (.goto 4, 3) := by decide +kernel
theorem dX4_show_48 : decode cX4_show 48 = .ok (.iconst 1, 1) := by decide +kernel
theorem dX4_show_49 : decode cX4_show 49 = .ok (.ireturn, 1) := by decide +kernel
theorem dX4_holds_0 : decode cX4_holds 0 = .ok (.iload_n 1, 1) := by decide +kernel
theorem dX4_holds_1 : decode cX4_holds 1 = .ok (.invokestatic 72, 3) := by decide +kernel
theorem dX4_holds_4 : decode cX4_holds 4 = .ok (.ifCond .eq 15, 3) := by decide +kernel
theorem dX4_holds_7 : decode cX4_holds 7 = .ok (.aload_n 0, 1) := by decide +kernel
theorem dX4_holds_8 : decode cX4_holds 8 = .ok (.getfield 24, 3) := by decide +kernel
theorem dX4_holds_11 : decode cX4_holds 11 = .ok (.iload_n 1, 1) := by decide +kernel
theorem dX4_holds_12 : decode cX4_holds 12 = .ok (.aaload, 1) := by decide +kernel
theorem dX4_holds_13 : decode cX4_holds 13 = .ok (.getfield 103, 3) := by decide +kernel
theorem dX4_holds_16 : decode cX4_holds 16 = .ok (.goto 4, 3) := by decide +kernel
theorem dX4_holds_19 : decode cX4_holds 19 = .ok (.iconst (-1), 1) := by decide +kernel
theorem dX4_holds_20 : decode cX4_holds 20 = .ok (.ireturn, 1) := by decide +kernel
theorem dX4_says_0 : decode cX4_says 0 = .ok (.iload_n 1, 1) := by decide +kernel
theorem dX4_says_1 : decode cX4_says 1 = .ok (.invokestatic 72, 3) := by decide +kernel
theorem dX4_says_4 : decode cX4_says 4 = .ok (.ifCond .eq 10, 3) := by decide +kernel
theorem dX4_says_7 : decode cX4_says 7 = .ok (.iload_n 2, 1) := by decide +kernel
theorem dX4_says_8 : decode cX4_says 8 = .ok (.invokestatic 68, 3) := by decide +kernel
theorem dX4_says_11 : decode cX4_says 11 = .ok (.ifCond .ne 9, 3) := by decide +kernel
theorem dX4_says_14 : decode cX4_says 14 = .ok (.aload_n 0, 1) := by decide +kernel
theorem dX4_says_15 : decode cX4_says 15 = .ok (.iconst (-1), 1) := by decide +kernel
theorem dX4_says_16 : decode cX4_says 16 = .ok (.invokevirtual 82, 3) := by decide +kernel
theorem dX4_says_19 : decode cX4_says 19 = .ok (.ireturn, 1) := by decide +kernel
theorem dX4_says_20 : decode cX4_says 20 = .ok (.aload_n 0, 1) := by decide +kernel
theorem dX4_says_21 : decode cX4_says 21 = .ok (.getfield 24, 3) := by decide +kernel
theorem dX4_says_24 : decode cX4_says 24 = .ok (.iload_n 1, 1) := by decide +kernel
theorem dX4_says_25 : decode cX4_says 25 = .ok (.aaload, 1) := by decide +kernel
theorem dX4_says_26 : decode cX4_says 26 = .ok (.invokevirtual 79, 3) := by decide +kernel
theorem dX4_says_29 : decode cX4_says 29 = .ok (.ifCond .eq 10, 3) := by decide +kernel
theorem dX4_says_32 : decode cX4_says 32 = .ok (.aload_n 0, 1) := by decide +kernel
theorem dX4_says_33 : decode cX4_says 33 = .ok (.bipush (-2), 2) := by decide +kernel
theorem dX4_says_35 : decode cX4_says 35 = .ok (.invokevirtual 82, 3) := by decide +kernel
theorem dX4_says_38 : decode cX4_says 38 = .ok (.ireturn, 1) := by decide +kernel
theorem dX4_says_39 : decode cX4_says 39 = .ok (.aload_n 0, 1) := by decide +kernel
theorem dX4_says_40 : decode cX4_says 40 = .ok (.getfield 24, 3) := by decide +kernel
theorem dX4_says_43 : decode cX4_says 43 = .ok (.iload_n 1, 1) := by decide +kernel
theorem dX4_says_44 : decode cX4_says 44 = .ok (.aaload, 1) := by decide +kernel
theorem dX4_says_45 : decode cX4_says 45 = .ok (.getfield 103, 3) := by decide +kernel
theorem dX4_says_48 : decode cX4_says 48 = .ok (.istore_n 3, 1) := by decide +kernel
theorem dX4_says_49 : decode cX4_says 49 = .ok (.aload_n 0, 1) := by decide +kernel
theorem dX4_says_50 : decode cX4_says 50 = .ok (.getfield 10, 3) := by decide +kernel
theorem dX4_says_53 : decode cX4_says 53 = .ok (.iload_n 3, 1) := by decide +kernel
theorem dX4_says_54 : decode cX4_says 54 = .ok (.invokevirtual 119, 3) := by decide +kernel
theorem dX4_says_57 : decode cX4_says 57 = .ok (.ifCond .ne 10, 3) := by decide +kernel
theorem dX4_says_60 : decode cX4_says 60 = .ok (.aload_n 0, 1) := by decide +kernel
theorem dX4_says_61 : decode cX4_says 61 = .ok (.bipush (-3), 2) := by decide +kernel
theorem dX4_says_63 : decode cX4_says 63 = .ok (.invokevirtual 82, 3) := by decide +kernel
theorem dX4_says_66 : decode cX4_says 66 = .ok (.ireturn, 1) := by decide +kernel
theorem dX4_says_67 : decode cX4_says 67 = .ok (.aload_n 0, 1) := by decide +kernel
theorem dX4_says_68 : decode cX4_says 68 = .ok (.getfield 10, 3) := by decide +kernel
theorem dX4_says_71 : decode cX4_says 71 = .ok (.getfield 121, 3) := by decide +kernel
theorem dX4_says_74 : decode cX4_says 74 = .ok (.iload_n 3, 1) := by decide +kernel
theorem dX4_says_75 : decode cX4_says 75 = .ok (.iaload, 1) := by decide +kernel
theorem dX4_says_76 : decode cX4_says 76 = .ok (.iload_n 2, 1) := by decide +kernel
theorem dX4_says_77 : decode cX4_says 77 = .ok (.invokestatic 124, 3) := by decide +kernel
theorem dX4_says_80 : decode cX4_says 80 = .ok (.ifCond .ne 10, 3) := by decide +kernel
theorem dX4_says_83 : decode cX4_says 83 = .ok (.aload_n 0, 1) := by decide +kernel
theorem dX4_says_84 : decode cX4_says 84 = .ok (.bipush (-2), 2) := by decide +kernel
theorem dX4_says_86 : decode cX4_says 86 = .ok (.invokevirtual 82, 3) := by decide +kernel
theorem dX4_says_89 : decode cX4_says 89 = .ok (.ireturn, 1) := by decide +kernel
theorem dX4_says_90 : decode cX4_says 90 = .ok (.aload_n 0, 1) := by decide +kernel
theorem dX4_says_91 : decode cX4_says 91 = .ok (.getfield 10, 3) := by decide +kernel
theorem dX4_says_94 : decode cX4_says 94 = .ok (.getfield 127, 3) := by decide +kernel
theorem dX4_says_97 : decode cX4_says 97 = .ok (.iload_n 3, 1) := by decide +kernel
theorem dX4_says_98 : decode cX4_says 98 = .ok (.iaload, 1) := by decide +kernel
theorem dX4_says_99 : decode cX4_says 99 = .ok (.istore 4, 2) := by decide +kernel
theorem dX4_says_101 : decode cX4_says 101 = .ok (.iload_n 2, 1) := by decide +kernel
theorem dX4_says_102 : decode cX4_says 102 = .ok (.ifCond .ne 6, 3) := by decide +kernel
theorem dX4_says_105 : decode cX4_says 105 = .ok (.iload 4, 2) := by decide +kernel
theorem dX4_says_107 : decode cX4_says 107 = .ok (.ireturn, 1) := by decide +kernel
theorem dX4_says_108 : decode cX4_says 108 = .ok (.iload_n 2, 1) := by decide +kernel
theorem dX4_says_109 : decode cX4_says 109 = .ok (.bipush 6, 2) := by decide +kernel
theorem dX4_says_111 : decode cX4_says 111 = .ok (.if_icmp .ne 8, 3) := by decide +kernel
theorem dX4_says_114 : decode cX4_says 114 = .ok (.iload 4, 2) := by decide +kernel
theorem dX4_says_116 : decode cX4_says 116 = .ok (.iconst 2, 1) := by decide +kernel
theorem dX4_says_117 : decode cX4_says 117 = .ok (.idiv, 1) := by decide +kernel
theorem dX4_says_118 : decode cX4_says 118 = .ok (.ireturn, 1) := by decide +kernel
theorem dX4_says_119 : decode cX4_says 119 = .ok (.aload_n 0, 1) := by decide +kernel
theorem dX4_says_120 : decode cX4_says 120 = .ok (.getfield 10, 3) := by decide +kernel
theorem dX4_says_123 : decode cX4_says 123 = .ok (.iload_n 3, 1) := by decide +kernel
theorem dX4_says_124 : decode cX4_says 124 = .ok (.iload 4, 2) := by decide +kernel
theorem dX4_says_126 : decode cX4_says 126 = .ok (.invokevirtual 130, 3) := by decide +kernel
theorem dX4_says_129 : decode cX4_says 129 = .ok (.ifCond .eq 7, 3) := by decide +kernel
theorem dX4_says_132 : decode cX4_says 132 = .ok (.iconst 1, 1) := by decide +kernel
theorem dX4_says_133 : decode cX4_says 133 = .ok (.goto 4, 3) := by decide +kernel
theorem dX4_says_136 : decode cX4_says 136 = .ok (.iconst 0, 1) := by decide +kernel
theorem dX4_says_137 : decode cX4_says 137 = .ok (.ireturn, 1) := by decide +kernel
theorem dX4_fact_0 : decode cX4_fact 0 = .ok (.iload_n 1, 1) := by decide +kernel
theorem dX4_fact_1 : decode cX4_fact 1 = .ok (.iconst 0, 1) := by decide +kernel
theorem dX4_fact_2 : decode cX4_fact 2 = .ok (.bipush 99, 2) := by decide +kernel
theorem dX4_fact_4 : decode cX4_fact 4 = .ok (.invokestatic 85, 3) := by decide +kernel
theorem dX4_fact_7 : decode cX4_fact 7 = .ok (.ifCond .ne 10, 3) := by decide +kernel
theorem dX4_fact_10 : decode cX4_fact 10 = .ok (.aload_n 0, 1) := by decide +kernel
theorem dX4_fact_11 : decode cX4_fact 11 = .ok (.bipush (-6), 2) := by decide +kernel
theorem dX4_fact_13 : decode cX4_fact 13 = .ok (.invokevirtual 82, 3) := by decide +kernel
theorem dX4_fact_16 : decode cX4_fact 16 = .ok (.ireturn, 1) := by decide +kernel
theorem dX4_fact_17 : decode cX4_fact 17 = .ok (.aload_n 0, 1) := by decide +kernel
theorem dX4_fact_18 : decode cX4_fact 18 = .ok (.getfield 10, 3) := by decide +kernel
theorem dX4_fact_21 : decode cX4_fact 21 = .ok (.getfield 133, 3) := by decide +kernel
theorem dX4_fact_24 : decode cX4_fact 24 = .ok (.bipush 6, 2) := by decide +kernel
theorem dX4_fact_26 : decode cX4_fact 26 = .ok (.if_icmp .lt 10, 3) := by decide +kernel
theorem dX4_fact_29 : decode cX4_fact 29 = .ok (.aload_n 0, 1) := by decide +kernel
theorem dX4_fact_30 : decode cX4_fact 30 = .ok (.bipush (-7), 2) := by decide +kernel
theorem dX4_fact_32 : decode cX4_fact 32 = .ok (.invokevirtual 82, 3) := by decide +kernel
theorem dX4_fact_35 : decode cX4_fact 35 = .ok (.ireturn, 1) := by decide +kernel
theorem dX4_fact_36 : decode cX4_fact 36 = .ok (.aload_n 0, 1) := by decide +kernel
theorem dX4_fact_37 : decode cX4_fact 37 = .ok (.getfield 10, 3) := by decide +kernel
theorem dX4_fact_40 : decode cX4_fact 40 = .ok (.iload_n 1, 1) := by decide +kernel
theorem dX4_fact_41 : decode cX4_fact 41 = .ok (.invokevirtual 136, 3) := by decide +kernel
theorem dX4_fact_44 : decode cX4_fact 44 = .ok (.aload_n 0, 1) := by decide +kernel
theorem dX4_fact_45 : decode cX4_fact 45 = .ok (.getfield 10, 3) := by decide +kernel
theorem dX4_fact_48 : decode cX4_fact 48 = .ok (.getfield 133, 3) := by decide +kernel
theorem dX4_fact_51 : decode cX4_fact 51 = .ok (.iconst 1, 1) := by decide +kernel
theorem dX4_fact_52 : decode cX4_fact 52 = .ok (.isub, 1) := by decide +kernel
theorem dX4_fact_53 : decode cX4_fact 53 = .ok (.ireturn, 1) := by decide +kernel
theorem dX4_speaker_0 : decode cX4_speaker 0 = .ok (.iload_n 1, 1) := by decide +kernel
theorem dX4_speaker_1 : decode cX4_speaker 1 = .ok (.invokestatic 68, 3) := by decide +kernel
theorem dX4_speaker_4 : decode cX4_speaker 4 = .ok (.ifCond .ne 9, 3) := by decide +kernel
theorem dX4_speaker_7 : decode cX4_speaker 7 = .ok (.aload_n 0, 1) := by decide +kernel
theorem dX4_speaker_8 : decode cX4_speaker 8 = .ok (.iconst (-1), 1) := by decide +kernel
theorem dX4_speaker_9 : decode cX4_speaker 9 = .ok (.invokevirtual 82, 3) := by decide +kernel
theorem dX4_speaker_12 : decode cX4_speaker 12 = .ok (.ireturn, 1) := by decide +kernel
theorem dX4_speaker_13 : decode cX4_speaker 13 = .ok (.iload_n 2, 1) := by decide +kernel
theorem dX4_speaker_14 : decode cX4_speaker 14 = .ok (.iconst 0, 1) := by decide +kernel
theorem dX4_speaker_15 : decode cX4_speaker 15 = .ok (.sipush 1023, 3) := by decide +kernel
theorem dX4_speaker_18 : decode cX4_speaker 18 = .ok (.invokestatic 85, 3) := by decide +kernel
theorem dX4_speaker_21 : decode cX4_speaker 21 = .ok (.ifCond .ne 10, 3) := by decide +kernel
theorem dX4_speaker_24 : decode cX4_speaker 24 = .ok (.aload_n 0, 1) := by decide +kernel
theorem dX4_speaker_25 : decode cX4_speaker 25 = .ok (.bipush (-6), 2) := by decide +kernel
theorem dX4_speaker_27 : decode cX4_speaker 27 = .ok (.invokevirtual 82, 3) := by decide +kernel
theorem dX4_speaker_30 : decode cX4_speaker 30 = .ok (.ireturn, 1) := by decide +kernel
theorem dX4_speaker_31 : decode cX4_speaker 31 = .ok (.aload_n 0, 1) := by decide +kernel
theorem dX4_speaker_32 : decode cX4_speaker 32 = .ok (.getfield 10, 3) := by decide +kernel
theorem dX4_speaker_35 : decode cX4_speaker 35 = .ok (.getfield 140, 3) := by decide +kernel
theorem dX4_speaker_38 : decode cX4_speaker 38 = .ok (.bipush 6, 2) := by decide +kernel
theorem dX4_speaker_40 : decode cX4_speaker 40 = .ok (.if_icmp .lt 10, 3) := by decide +kernel
theorem dX4_speaker_43 : decode cX4_speaker 43 = .ok (.aload_n 0, 1) := by decide +kernel
theorem dX4_speaker_44 : decode cX4_speaker 44 = .ok (.bipush (-7), 2) := by decide +kernel
theorem dX4_speaker_46 : decode cX4_speaker 46 = .ok (.invokevirtual 82, 3) := by decide +kernel
theorem dX4_speaker_49 : decode cX4_speaker 49 = .ok (.ireturn, 1) := by decide +kernel
theorem dX4_speaker_50 : decode cX4_speaker 50 = .ok (.aload_n 0, 1) := by decide +kernel
theorem dX4_speaker_51 : decode cX4_speaker 51 = .ok (.getfield 10, 3) := by decide +kernel
theorem dX4_speaker_54 : decode cX4_speaker 54 = .ok (.iload_n 1, 1) := by decide +kernel
theorem dX4_speaker_55 : decode cX4_speaker 55 = .ok (.iload_n 2, 1) := by decide +kernel
theorem dX4_speaker_56 : decode cX4_speaker 56 = .ok (.invokevirtual 143, 3) := by decide +kernel
theorem dX4_speaker_59 : decode cX4_speaker 59 = .ok (.aload_n 0, 1) := by decide +kernel
theorem dX4_speaker_60 : decode cX4_speaker 60 = .ok (.getfield 10, 3) := by decide +kernel
theorem dX4_speaker_63 : decode cX4_speaker 63 = .ok (.getfield 140, 3) := by decide +kernel
theorem dX4_speaker_66 : decode cX4_speaker 66 = .ok (.iconst 1, 1) := by decide +kernel
theorem dX4_speaker_67 : decode cX4_speaker 67 = .ok (.isub, 1) := by decide +kernel
theorem dX4_speaker_68 : decode cX4_speaker 68 = .ok (.ireturn, 1) := by decide +kernel
theorem dX4_law_0 : decode cX4_law 0 = .ok (.iload_n 1, 1) := by decide +kernel
theorem dX4_law_1 : decode cX4_law 1 = .ok (.iconst 2, 1) := by decide +kernel
theorem dX4_law_2 : decode cX4_law 2 = .ok (.bipush 10, 2) := by decide +kernel
theorem dX4_law_4 : decode cX4_law 4 = .ok (.invokestatic 85, 3) := by decide +kernel
theorem dX4_law_7 : decode cX4_law 7 = .ok (.ifCond .eq 22, 3) := by decide +kernel
theorem dX4_law_10 : decode cX4_law 10 = .ok (.iload_n 2, 1) := by decide +kernel
theorem dX4_law_11 : decode cX4_law 11 = .ok (.iconst 0, 1) := by decide +kernel
theorem dX4_law_12 : decode cX4_law 12 = .ok (.iload_n 1, 1) := by decide +kernel
theorem dX4_law_13 : decode cX4_law 13 = .ok (.invokestatic 85, 3) := by decide +kernel
theorem dX4_law_16 : decode cX4_law 16 = .ok (.ifCond .eq 13, 3) := by decide +kernel
theorem dX4_law_19 : decode cX4_law 19 = .ok (.aload_n 0, 1) := by decide +kernel
theorem dX4_law_20 : decode cX4_law 20 = .ok (.getfield 10, 3) := by decide +kernel
theorem dX4_law_23 : decode cX4_law 23 = .ok (.getfield 146, 3) := by decide +kernel
theorem dX4_law_26 : decode cX4_law 26 = .ok (.ifCond .le 10, 3) := by decide +kernel
theorem dX4_law_29 : decode cX4_law 29 = .ok (.aload_n 0, 1) := by decide +kernel
theorem dX4_law_30 : decode cX4_law 30 = .ok (.bipush (-6), 2) := by decide +kernel
theorem dX4_law_32 : decode cX4_law 32 = .ok (.invokevirtual 82, 3) := by decide +kernel
theorem dX4_law_35 : decode cX4_law 35 = .ok (.ireturn, 1) := by decide +kernel
theorem dX4_law_36 : decode cX4_law 36 = .ok (.bipush 100, 2) := by decide +kernel
theorem dX4_law_38 : decode cX4_law 38 = .ok (.aload_n 0, 1) := by decide +kernel
theorem dX4_law_39 : decode cX4_law 39 = .ok (.getfield 10, 3) := by decide +kernel
theorem dX4_law_42 : decode cX4_law 42 = .ok (.getfield 149, 3) := by decide +kernel
theorem dX4_law_45 : decode cX4_law 45 = .ok (.imul, 1) := by decide +kernel
theorem dX4_law_46 : decode cX4_law 46 = .ok (.aload_n 0, 1) := by decide +kernel
theorem dX4_law_47 : decode cX4_law 47 = .ok (.getfield 10, 3) := by decide +kernel
theorem dX4_law_50 : decode cX4_law 50 = .ok (.getfield 152, 3) := by decide +kernel
theorem dX4_law_53 : decode cX4_law 53 = .ok (.iadd, 1) := by decide +kernel
theorem dX4_law_54 : decode cX4_law 54 = .ok (.istore_n 3, 1) := by decide +kernel
theorem dX4_law_55 : decode cX4_law 55 = .ok (.aload_n 0, 1) := by decide +kernel
theorem dX4_law_56 : decode cX4_law 56 = .ok (.getfield 10, 3) := by decide +kernel
theorem dX4_law_59 : decode cX4_law 59 = .ok (.iload_n 1, 1) := by decide +kernel
theorem dX4_law_60 : decode cX4_law 60 = .ok (.putfield 149, 3) := by decide +kernel
theorem dX4_law_63 : decode cX4_law 63 = .ok (.aload_n 0, 1) := by decide +kernel
theorem dX4_law_64 : decode cX4_law 64 = .ok (.getfield 10, 3) := by decide +kernel
theorem dX4_law_67 : decode cX4_law 67 = .ok (.iload_n 2, 1) := by decide +kernel
theorem dX4_law_68 : decode cX4_law 68 = .ok (.putfield 152, 3) := by decide +kernel
theorem dX4_law_71 : decode cX4_law 71 = .ok (.iload_n 3, 1) := by decide +kernel
theorem dX4_law_72 : decode cX4_law 72 = .ok (.ireturn, 1) := by decide +kernel
theorem dX4_speakerOf_0 : decode cX4_speakerOf 0 = .ok (.aload_n 0, 1) := by decide +kernel
theorem dX4_speakerOf_1 : decode cX4_speakerOf 1 = .ok (.getfield 10, 3) := by decide +kernel
theorem dX4_speakerOf_4 : decode cX4_speakerOf 4 = .ok (.iload_n 1, 1) := by decide +kernel
theorem dX4_speakerOf_5 : decode cX4_speakerOf 5 = .ok (.invokevirtual 119, 3) := by decide +kernel
theorem dX4_speakerOf_8 : decode cX4_speakerOf 8 = .ok (.ifCond .ne 10, 3) := by decide +kernel
theorem dX4_speakerOf_11 : decode cX4_speakerOf 11 = .ok (.aload_n 0, 1) := by decide +kernel
theorem dX4_speakerOf_12 : decode cX4_speakerOf 12 = .ok (.bipush (-5), 2) := by decide +kernel
theorem dX4_speakerOf_14 : decode cX4_speakerOf 14 = .ok (.invokevirtual 82, 3) := by decide +kernel
theorem dX4_speakerOf_17 : decode cX4_speakerOf 17 = .ok (.ireturn, 1) := by decide +kernel
theorem dX4_speakerOf_18 : decode cX4_speakerOf 18 = .ok (.iload_n 2, 1) := by decide +kernel
theorem dX4_speakerOf_19 : decode cX4_speakerOf 19 = .ok (.tableswitch 55 0 2 #[25, 35, 45], 25) := by decide +kernel
theorem dX4_speakerOf_44 : decode cX4_speakerOf 44 = .ok (.aload_n 0, 1) := by decide +kernel
theorem dX4_speakerOf_45 : decode cX4_speakerOf 45 = .ok (.getfield 10, 3) := by decide +kernel
theorem dX4_speakerOf_48 : decode cX4_speakerOf 48 = .ok (.getfield 121, 3) := by decide +kernel
theorem dX4_speakerOf_51 : decode cX4_speakerOf 51 = .ok (.iload_n 1, 1) := by decide +kernel
theorem dX4_speakerOf_52 : decode cX4_speakerOf 52 = .ok (.iaload, 1) := by decide +kernel
theorem dX4_speakerOf_53 : decode cX4_speakerOf 53 = .ok (.ireturn, 1) := by decide +kernel
theorem dX4_speakerOf_54 : decode cX4_speakerOf 54 = .ok (.aload_n 0, 1) := by decide +kernel
theorem dX4_speakerOf_55 : decode cX4_speakerOf 55 = .ok (.getfield 10, 3) := by decide +kernel
theorem dX4_speakerOf_58 : decode cX4_speakerOf 58 = .ok (.getfield 155, 3) := by decide +kernel
theorem dX4_speakerOf_61 : decode cX4_speakerOf 61 = .ok (.iload_n 1, 1) := by decide +kernel
theorem dX4_speakerOf_62 : decode cX4_speakerOf 62 = .ok (.iaload, 1) := by decide +kernel
theorem dX4_speakerOf_63 : decode cX4_speakerOf 63 = .ok (.ireturn, 1) := by decide +kernel
theorem dX4_speakerOf_64 : decode cX4_speakerOf 64 = .ok (.aload_n 0, 1) := by decide +kernel
theorem dX4_speakerOf_65 : decode cX4_speakerOf 65 = .ok (.getfield 10, 3) := by decide +kernel
theorem dX4_speakerOf_68 : decode cX4_speakerOf 68 = .ok (.getfield 127, 3) := by decide +kernel
theorem dX4_speakerOf_71 : decode cX4_speakerOf 71 = .ok (.iload_n 1, 1) := by decide +kernel
theorem dX4_speakerOf_72 : decode cX4_speakerOf 72 = .ok (.iaload, 1) := by decide +kernel
theorem dX4_speakerOf_73 : decode cX4_speakerOf 73 = .ok (.ireturn, 1) := by decide +kernel
theorem dX4_speakerOf_74 : decode cX4_speakerOf 74 = .ok (.aload_n 0, 1) := by decide +kernel
theorem dX4_speakerOf_75 : decode cX4_speakerOf 75 = .ok (.bipush (-5), 2) := by decide +kernel
theorem dX4_speakerOf_77 : decode cX4_speakerOf 77 = .ok (.invokevirtual 82, 3) := by decide +kernel
theorem dX4_speakerOf_80 : decode cX4_speakerOf 80 = .ok (.ireturn, 1) := by decide +kernel
theorem dX4_harm_0 : decode cX4_harm 0 = .ok (.aload_n 0, 1) := by decide +kernel
theorem dX4_harm_1 : decode cX4_harm 1 = .ok (.getfield 10, 3) := by decide +kernel
theorem dX4_harm_4 : decode cX4_harm 4 = .ok (.iload_n 1, 1) := by decide +kernel
theorem dX4_harm_5 : decode cX4_harm 5 = .ok (.invokevirtual 158, 3) := by decide +kernel
theorem dX4_harm_8 : decode cX4_harm 8 = .ok (.ifCond .ne 9, 3) := by decide +kernel
theorem dX4_harm_11 : decode cX4_harm 11 = .ok (.aload_n 0, 1) := by decide +kernel
theorem dX4_harm_12 : decode cX4_harm 12 = .ok (.iconst (-1), 1) := by decide +kernel
theorem dX4_harm_13 : decode cX4_harm 13 = .ok (.invokevirtual 82, 3) := by decide +kernel
theorem dX4_harm_16 : decode cX4_harm 16 = .ok (.ireturn, 1) := by decide +kernel
theorem dX4_harm_17 : decode cX4_harm 17 = .ok (.iload_n 2, 1) := by decide +kernel
theorem dX4_harm_18 : decode cX4_harm 18 = .ok (.iconst 0, 1) := by decide +kernel
theorem dX4_harm_19 : decode cX4_harm 19 = .ok (.bipush 99, 2) := by decide +kernel
theorem dX4_harm_21 : decode cX4_harm 21 = .ok (.invokestatic 85, 3) := by decide +kernel
theorem dX4_harm_24 : decode cX4_harm 24 = .ok (.ifCond .ne 10, 3) := by decide +kernel
theorem dX4_harm_27 : decode cX4_harm 27 = .ok (.aload_n 0, 1) := by decide +kernel
theorem dX4_harm_28 : decode cX4_harm 28 = .ok (.bipush (-6), 2) := by decide +kernel
theorem dX4_harm_30 : decode cX4_harm 30 = .ok (.invokevirtual 82, 3) := by decide +kernel
theorem dX4_harm_33 : decode cX4_harm 33 = .ok (.ireturn, 1) := by decide +kernel
theorem dX4_harm_34 : decode cX4_harm 34 = .ok (.aload_n 0, 1) := by decide +kernel
theorem dX4_harm_35 : decode cX4_harm 35 = .ok (.getfield 10, 3) := by decide +kernel
theorem dX4_harm_38 : decode cX4_harm 38 = .ok (.getfield 161, 3) := by decide +kernel
theorem dX4_harm_41 : decode cX4_harm 41 = .ok (.iload_n 1, 1) := by decide +kernel
theorem dX4_harm_42 : decode cX4_harm 42 = .ok (.iaload, 1) := by decide +kernel
theorem dX4_harm_43 : decode cX4_harm 43 = .ok (.istore_n 3, 1) := by decide +kernel
theorem dX4_harm_44 : decode cX4_harm 44 = .ok (.aload_n 0, 1) := by decide +kernel
theorem dX4_harm_45 : decode cX4_harm 45 = .ok (.getfield 10, 3) := by decide +kernel
theorem dX4_harm_48 : decode cX4_harm 48 = .ok (.getfield 161, 3) := by decide +kernel
theorem dX4_harm_51 : decode cX4_harm 51 = .ok (.iload_n 1, 1) := by decide +kernel
theorem dX4_harm_52 : decode cX4_harm 52 = .ok (.iload_n 2, 1) := by decide +kernel
theorem dX4_harm_53 : decode cX4_harm 53 = .ok (.iastore, 1) := by decide +kernel
theorem dX4_harm_54 : decode cX4_harm 54 = .ok (.iload_n 3, 1) := by decide +kernel
theorem dX4_harm_55 : decode cX4_harm 55 = .ok (.ireturn, 1) := by decide +kernel
theorem dX4_say_0 : decode cX4_say 0 = .ok (.aload_n 0, 1) := by decide +kernel
theorem dX4_say_1 : decode cX4_say 1 = .ok (.getfield 10, 3) := by decide +kernel
theorem dX4_say_4 : decode cX4_say 4 = .ok (.iload_n 1, 1) := by decide +kernel
theorem dX4_say_5 : decode cX4_say 5 = .ok (.invokevirtual 119, 3) := by decide +kernel
theorem dX4_say_8 : decode cX4_say 8 = .ok (.ifCond .eq 14, 3) := by decide +kernel
theorem dX4_say_11 : decode cX4_say 11 = .ok (.aload_n 0, 1) := by decide +kernel
theorem dX4_say_12 : decode cX4_say 12 = .ok (.getfield 10, 3) := by decide +kernel
theorem dX4_say_15 : decode cX4_say 15 = .ok (.iload_n 2, 1) := by decide +kernel
theorem dX4_say_16 : decode cX4_say 16 = .ok (.invokevirtual 158, 3) := by decide +kernel
theorem dX4_say_19 : decode cX4_say 19 = .ok (.ifCond .ne 9, 3) := by decide +kernel
theorem dX4_say_22 : decode cX4_say 22 = .ok (.aload_n 0, 1) := by decide +kernel
theorem dX4_say_23 : decode cX4_say 23 = .ok (.iconst (-1), 1) := by decide +kernel
theorem dX4_say_24 : decode cX4_say 24 = .ok (.invokevirtual 82, 3) := by decide +kernel
theorem dX4_say_27 : decode cX4_say 27 = .ok (.ireturn, 1) := by decide +kernel
theorem dX4_say_28 : decode cX4_say 28 = .ok (.aload_n 0, 1) := by decide +kernel
theorem dX4_say_29 : decode cX4_say 29 = .ok (.getfield 10, 3) := by decide +kernel
theorem dX4_say_32 : decode cX4_say 32 = .ok (.iload_n 1, 1) := by decide +kernel
theorem dX4_say_33 : decode cX4_say 33 = .ok (.invokevirtual 164, 3) := by decide +kernel
theorem dX4_say_36 : decode cX4_say 36 = .ok (.ifCond .eq 10, 3) := by decide +kernel
theorem dX4_say_39 : decode cX4_say 39 = .ok (.aload_n 0, 1) := by decide +kernel
theorem dX4_say_40 : decode cX4_say 40 = .ok (.bipush (-6), 2) := by decide +kernel
theorem dX4_say_42 : decode cX4_say 42 = .ok (.invokevirtual 82, 3) := by decide +kernel
theorem dX4_say_45 : decode cX4_say 45 = .ok (.ireturn, 1) := by decide +kernel
theorem dX4_say_46 : decode cX4_say 46 = .ok (.aload_n 0, 1) := by decide +kernel
theorem dX4_say_47 : decode cX4_say 47 = .ok (.getfield 10, 3) := by decide +kernel
theorem dX4_say_50 : decode cX4_say 50 = .ok (.iload_n 1, 1) := by decide +kernel
theorem dX4_say_51 : decode cX4_say 51 = .ok (.iload_n 2, 1) := by decide +kernel
theorem dX4_say_52 : decode cX4_say 52 = .ok (.iload_n 3, 1) := by decide +kernel
theorem dX4_say_53 : decode cX4_say 53 = .ok (.aload_n 0, 1) := by decide +kernel
theorem dX4_say_54 : decode cX4_say 54 = .ok (.getfield 10, 3) := by decide +kernel
theorem dX4_say_57 : decode cX4_say 57 = .ok (.ldc2_w 63, 3) := by decide +kernel
theorem dX4_say_60 : decode cX4_say 60 = .ok (.invokevirtual 167, 3) := by decide +kernel
theorem dX4_say_63 : decode cX4_say 63 = .ok (.invokevirtual 171, 3) := by decide +kernel
theorem dX4_say_66 : decode cX4_say 66 = .ok (.lstore 4, 2) := by decide +kernel
theorem dX4_say_68 : decode cX4_say 68 = .ok (.lload 4, 2) := by decide +kernel
theorem dX4_say_70 : decode cX4_say 70 = .ok (.lconst 0, 1) := by decide +kernel
theorem dX4_say_71 : decode cX4_say 71 = .ok (.lcmp, 1) := by decide +kernel
theorem dX4_say_72 : decode cX4_say 72 = .ok (.ifCond .ne 10, 3) := by decide +kernel
theorem dX4_say_75 : decode cX4_say 75 = .ok (.aload_n 0, 1) := by decide +kernel
theorem dX4_say_76 : decode cX4_say 76 = .ok (.bipush (-6), 2) := by decide +kernel
theorem dX4_say_78 : decode cX4_say 78 = .ok (.invokevirtual 82, 3) := by decide +kernel
theorem dX4_say_81 : decode cX4_say 81 = .ok (.ireturn, 1) := by decide +kernel
theorem dX4_say_82 : decode cX4_say 82 = .ok (.aload_n 0, 1) := by decide +kernel
theorem dX4_say_83 : decode cX4_say 83 = .ok (.getfield 10, 3) := by decide +kernel
theorem dX4_say_86 : decode cX4_say 86 = .ok (.getfield 146, 3) := by decide +kernel
theorem dX4_say_89 : decode cX4_say 89 = .ok (.bipush 24, 2) := by decide +kernel
theorem dX4_say_91 : decode cX4_say 91 = .ok (.if_icmp .lt 10, 3) := by decide +kernel
theorem dX4_say_94 : decode cX4_say 94 = .ok (.aload_n 0, 1) := by decide +kernel
theorem dX4_say_95 : decode cX4_say 95 = .ok (.bipush (-7), 2) := by decide +kernel
theorem dX4_say_97 : decode cX4_say 97 = .ok (.invokevirtual 82, 3) := by decide +kernel
theorem dX4_say_100 : decode cX4_say 100 = .ok (.ireturn, 1) := by decide +kernel
theorem dX4_say_101 : decode cX4_say 101 = .ok (.aload_n 0, 1) := by decide +kernel
theorem dX4_say_102 : decode cX4_say 102 = .ok (.getfield 10, 3) := by decide +kernel
theorem dX4_say_105 : decode cX4_say 105 = .ok (.iload_n 1, 1) := by decide +kernel
theorem dX4_say_106 : decode cX4_say 106 = .ok (.iload_n 2, 1) := by decide +kernel
theorem dX4_say_107 : decode cX4_say 107 = .ok (.iload_n 3, 1) := by decide +kernel
theorem dX4_say_108 : decode cX4_say 108 = .ok (.invokevirtual 175, 3) := by decide +kernel
theorem dX4_say_111 : decode cX4_say 111 = .ok (.lload 4, 2) := by decide +kernel
theorem dX4_say_113 : decode cX4_say 113 = .ok (.invokestatic 178, 3) := by decide +kernel
theorem dX4_say_116 : decode cX4_say 116 = .ok (.ireturn, 1) := by decide +kernel
theorem dX4_unsay_0 : decode cX4_unsay 0 = .ok (.aload_n 0, 1) := by decide +kernel
theorem dX4_unsay_1 : decode cX4_unsay 1 = .ok (.getfield 10, 3) := by decide +kernel
theorem dX4_unsay_4 : decode cX4_unsay 4 = .ok (.getfield 146, 3) := by decide +kernel
theorem dX4_unsay_7 : decode cX4_unsay 7 = .ok (.ifCond .ne 10, 3) := by decide +kernel
theorem dX4_unsay_10 : decode cX4_unsay 10 = .ok (.aload_n 0, 1) := by decide +kernel
theorem dX4_unsay_11 : decode cX4_unsay 11 = .ok (.bipush (-6), 2) := by decide +kernel
theorem dX4_unsay_13 : decode cX4_unsay 13 = .ok (.invokevirtual 82, 3) := by decide +kernel
theorem dX4_unsay_16 : decode cX4_unsay 16 = .ok (.ireturn, 1) := by decide +kernel
theorem dX4_unsay_17 : decode cX4_unsay 17 = .ok (.aload_n 0, 1) := by decide +kernel
theorem dX4_unsay_18 : decode cX4_unsay 18 = .ok (.getfield 10, 3) := by decide +kernel
theorem dX4_unsay_21 : decode cX4_unsay 21 = .ok (.invokevirtual 184, 3) := by decide +kernel
theorem dX4_unsay_24 : decode cX4_unsay 24 = .ok (.aload_n 0, 1) := by decide +kernel
theorem dX4_unsay_25 : decode cX4_unsay 25 = .ok (.getfield 10, 3) := by decide +kernel
theorem dX4_unsay_28 : decode cX4_unsay 28 = .ok (.getfield 146, 3) := by decide +kernel
theorem dX4_unsay_31 : decode cX4_unsay 31 = .ok (.ireturn, 1) := by decide +kernel
theorem dX4_sayingOf_0 : decode cX4_sayingOf 0 = .ok (.iload_n 1, 1) := by decide +kernel
theorem dX4_sayingOf_1 : decode cX4_sayingOf 1 = .ok (.ifCond .lt 26, 3) := by decide +kernel
theorem dX4_sayingOf_4 : decode cX4_sayingOf 4 = .ok (.iload_n 1, 1) := by decide +kernel
theorem dX4_sayingOf_5 : decode cX4_sayingOf 5 = .ok (.aload_n 0, 1) := by decide +kernel
theorem dX4_sayingOf_6 : decode cX4_sayingOf 6 = .ok (.getfield 10, 3) := by decide +kernel
theorem dX4_sayingOf_9 : decode cX4_sayingOf 9 = .ok (.getfield 146, 3) := by decide +kernel
theorem dX4_sayingOf_12 : decode cX4_sayingOf 12 = .ok (.if_icmp .ge 15, 3) := by decide +kernel
theorem dX4_sayingOf_15 : decode cX4_sayingOf 15 = .ok (.aload_n 0, 1) := by decide +kernel
theorem dX4_sayingOf_16 : decode cX4_sayingOf 16 = .ok (.getfield 10, 3) := by decide +kernel
theorem dX4_sayingOf_19 : decode cX4_sayingOf 19 = .ok (.getfield 187, 3) := by decide +kernel
theorem dX4_sayingOf_22 : decode cX4_sayingOf 22 = .ok (.iload_n 1, 1) := by decide +kernel
theorem dX4_sayingOf_23 : decode cX4_sayingOf 23 = .ok (.iaload, 1) := by decide +kernel
theorem dX4_sayingOf_24 : decode cX4_sayingOf 24 = .ok (.goto 4, 3) := by decide +kernel
theorem dX4_sayingOf_27 : decode cX4_sayingOf 27 = .ok (.iconst (-1), 1) := by decide +kernel
theorem dX4_sayingOf_28 : decode cX4_sayingOf 28 = .ok (.ireturn, 1) := by decide +kernel
theorem dX4_known_0 : decode cX4_known 0 = .ok (.aload_n 0, 1) := by decide +kernel
theorem dX4_known_1 : decode cX4_known 1 = .ok (.getfield 10, 3) := by decide +kernel
theorem dX4_known_4 : decode cX4_known 4 = .ok (.iload_n 1, 1) := by decide +kernel
theorem dX4_known_5 : decode cX4_known 5 = .ok (.invokevirtual 158, 3) := by decide +kernel
theorem dX4_known_8 : decode cX4_known 8 = .ok (.ifCond .ne 9, 3) := by decide +kernel
theorem dX4_known_11 : decode cX4_known 11 = .ok (.aload_n 0, 1) := by decide +kernel
theorem dX4_known_12 : decode cX4_known 12 = .ok (.iconst (-1), 1) := by decide +kernel
theorem dX4_known_13 : decode cX4_known 13 = .ok (.invokevirtual 82, 3) := by decide +kernel
theorem dX4_known_16 : decode cX4_known 16 = .ok (.ireturn, 1) := by decide +kernel
theorem dX4_known_17 : decode cX4_known 17 = .ok (.aload_n 0, 1) := by decide +kernel
theorem dX4_known_18 : decode cX4_known 18 = .ok (.getfield 10, 3) := by decide +kernel
theorem dX4_known_21 : decode cX4_known 21 = .ok (.ldc2_w 63, 3) := by decide +kernel
theorem dX4_known_24 : decode cX4_known 24 = .ok (.invokevirtual 167, 3) := by decide +kernel
theorem dX4_known_27 : decode cX4_known 27 = .ok (.iload_n 1, 1) := by decide +kernel
theorem dX4_known_28 : decode cX4_known 28 = .ok (.iload_n 2, 1) := by decide +kernel
theorem dX4_known_29 : decode cX4_known 29 = .ok (.invokestatic 190, 3) := by decide +kernel
theorem dX4_known_32 : decode cX4_known 32 = .ok (.land, 1) := by decide +kernel
theorem dX4_known_33 : decode cX4_known 33 = .ok (.lconst 0, 1) := by decide +kernel
theorem dX4_known_34 : decode cX4_known 34 = .ok (.lcmp, 1) := by decide +kernel
theorem dX4_known_35 : decode cX4_known 35 = .ok (.ifCond .ne 10, 3) := by decide +kernel
theorem dX4_known_38 : decode cX4_known 38 = .ok (.aload_n 0, 1) := by decide +kernel
theorem dX4_known_39 : decode cX4_known 39 = .ok (.bipush (-6), 2) := by decide +kernel
theorem dX4_known_41 : decode cX4_known 41 = .ok (.invokevirtual 82, 3) := by decide +kernel
theorem dX4_known_44 : decode cX4_known 44 = .ok (.ireturn, 1) := by decide +kernel
theorem dX4_known_45 : decode cX4_known 45 = .ok (.aload_n 0, 1) := by decide +kernel
theorem dX4_known_46 : decode cX4_known 46 = .ok (.getfield 10, 3) := by decide +kernel
theorem dX4_known_49 : decode cX4_known 49 = .ok (.iload_n 1, 1) := by decide +kernel
theorem dX4_known_50 : decode cX4_known 50 = .ok (.iload_n 2, 1) := by decide +kernel
theorem dX4_known_51 : decode cX4_known 51 = .ok (.invokevirtual 194, 3) := by decide +kernel
theorem dX4_known_54 : decode cX4_known 54 = .ok (.aload_n 0, 1) := by decide +kernel
theorem dX4_known_55 : decode cX4_known 55 = .ok (.getfield 10, 3) := by decide +kernel
theorem dX4_known_58 : decode cX4_known 58 = .ok (.getfield 198, 3) := by decide +kernel
theorem dX4_known_61 : decode cX4_known 61 = .ok (.invokestatic 178, 3) := by decide +kernel
theorem dX4_known_64 : decode cX4_known 64 = .ok (.ireturn, 1) := by decide +kernel
theorem dX4_town_0 : decode cX4_town 0 = .ok (.aload_n 0, 1) := by decide +kernel
theorem dX4_town_1 : decode cX4_town 1 = .ok (.iload_n 1, 1) := by decide +kernel
theorem dX4_town_2 : decode cX4_town 2 = .ok (.invokevirtual 93, 3) := by decide +kernel
theorem dX4_town_5 : decode cX4_town 5 = .ok (.istore_n 2, 1) := by decide +kernel
theorem dX4_town_6 : decode cX4_town 6 = .ok (.iload_n 2, 1) := by decide +kernel
theorem dX4_town_7 : decode cX4_town 7 = .ok (.ifCond .eq 9, 3) := by decide +kernel
theorem dX4_town_10 : decode cX4_town 10 = .ok (.aload_n 0, 1) := by decide +kernel
theorem dX4_town_11 : decode cX4_town 11 = .ok (.iload_n 2, 1) := by decide +kernel
theorem dX4_town_12 : decode cX4_town 12 = .ok (.invokevirtual 82, 3) := by decide +kernel
theorem dX4_town_15 : decode cX4_town 15 = .ok (.ireturn, 1) := by decide +kernel
theorem dX4_town_16 : decode cX4_town 16 = .ok (.aload_n 0, 1) := by decide +kernel
theorem dX4_town_17 : decode cX4_town 17 = .ok (.getfield 19, 3) := by decide +kernel
theorem dX4_town_20 : decode cX4_town 20 = .ok (.aload_n 0, 1) := by decide +kernel
theorem dX4_town_21 : decode cX4_town 21 = .ok (.getfield 10, 3) := by decide +kernel
theorem dX4_town_24 : decode cX4_town 24 = .ok (.invokevirtual 202, 3) := by decide +kernel
theorem dX4_town_27 : decode cX4_town 27 = .ok (.aload_n 0, 1) := by decide +kernel
theorem dX4_town_28 : decode cX4_town 28 = .ok (.aload_n 0, 1) := by decide +kernel
theorem dX4_town_29 : decode cX4_town 29 = .ok (.getfield 31, 3) := by decide +kernel
theorem dX4_town_32 : decode cX4_town 32 = .ok (.aload_n 0, 1) := by decide +kernel
theorem dX4_town_33 : decode cX4_town 33 = .ok (.getfield 24, 3) := by decide +kernel
theorem dX4_town_36 : decode cX4_town 36 = .ok (.iload_n 1, 1) := by decide +kernel
theorem dX4_town_37 : decode cX4_town 37 = .ok (.aaload, 1) := by decide +kernel
theorem dX4_town_38 : decode cX4_town 38 = .ok (.aload_n 0, 1) := by decide +kernel
theorem dX4_town_39 : decode cX4_town 39 = .ok (.getfield 19, 3) := by decide +kernel
theorem dX4_town_42 : decode cX4_town 42 = .ok (.invokevirtual 206, 3) := by decide +kernel
theorem dX4_town_45 : decode cX4_town 45 = .ok (.putfield 50, 3) := by decide +kernel
theorem dX4_town_48 : decode cX4_town 48 = .ok (.aload_n 0, 1) := by decide +kernel
theorem dX4_town_49 : decode cX4_town 49 = .ok (.getfield 50, 3) := by decide +kernel
theorem dX4_town_52 : decode cX4_town 52 = .ok (.iconst (-1), 1) := by decide +kernel
theorem dX4_town_53 : decode cX4_town 53 = .ok (.if_icmp .eq 10, 3) := by decide +kernel
theorem dX4_town_56 : decode cX4_town 56 = .ok (.aload_n 0, 1) := by decide +kernel
theorem dX4_town_57 : decode cX4_town 57 = .ok (.bipush (-6), 2) := by decide +kernel
theorem dX4_town_59 : decode cX4_town 59 = .ok (.invokevirtual 82, 3) := by decide +kernel
theorem dX4_town_62 : decode cX4_town 62 = .ok (.ireturn, 1) := by decide +kernel
theorem dX4_town_63 : decode cX4_town 63 = .ok (.aload_n 0, 1) := by decide +kernel
theorem dX4_town_64 : decode cX4_town 64 = .ok (.getfield 10, 3) := by decide +kernel
theorem dX4_town_67 : decode cX4_town 67 = .ok (.aload_n 0, 1) := by decide +kernel
theorem dX4_town_68 : decode cX4_town 68 = .ok (.getfield 19, 3) := by decide +kernel
theorem dX4_town_71 : decode cX4_town 71 = .ok (.invokevirtual 202, 3) := by decide +kernel
theorem dX4_town_74 : decode cX4_town 74 = .ok (.aload_n 0, 1) := by decide +kernel
theorem dX4_town_75 : decode cX4_town 75 = .ok (.getfield 31, 3) := by decide +kernel
theorem dX4_town_78 : decode cX4_town 78 = .ok (.getfield 210, 3) := by decide +kernel
theorem dX4_town_81 : decode cX4_town 81 = .ok (.ireturn, 1) := by decide +kernel
theorem dX4_fault_0 : decode cX4_fault 0 = .ok (.aload_n 0, 1) := by decide +kernel
theorem dX4_fault_1 : decode cX4_fault 1 = .ok (.getfield 50, 3) := by decide +kernel
theorem dX4_fault_4 : decode cX4_fault 4 = .ok (.ireturn, 1) := by decide +kernel
theorem dX4_canBe_0 : decode cX4_canBe 0 = .ok (.aload_n 0, 1) := by decide +kernel
theorem dX4_canBe_1 : decode cX4_canBe 1 = .ok (.getfield 10, 3) := by decide +kernel
theorem dX4_canBe_4 : decode cX4_canBe 4 = .ok (.iload_n 1, 1) := by decide +kernel
theorem dX4_canBe_5 : decode cX4_canBe 5 = .ok (.invokevirtual 119, 3) := by decide +kernel
theorem dX4_canBe_8 : decode cX4_canBe 8 = .ok (.ifCond .eq 14, 3) := by decide +kernel
theorem dX4_canBe_11 : decode cX4_canBe 11 = .ok (.aload_n 0, 1) := by decide +kernel
theorem dX4_canBe_12 : decode cX4_canBe 12 = .ok (.getfield 10, 3) := by decide +kernel
theorem dX4_canBe_15 : decode cX4_canBe 15 = .ok (.iload_n 2, 1) := by decide +kernel
theorem dX4_canBe_16 : decode cX4_canBe 16 = .ok (.invokevirtual 213, 3) := by decide +kernel
theorem dX4_canBe_19 : decode cX4_canBe 19 = .ok (.ifCond .ne 9, 3) := by decide +kernel
theorem dX4_canBe_22 : decode cX4_canBe 22 = .ok (.aload_n 0, 1) := by decide +kernel
theorem dX4_canBe_23 : decode cX4_canBe 23 = .ok (.iconst (-1), 1) := by decide +kernel
theorem dX4_canBe_24 : decode cX4_canBe 24 = .ok (.invokevirtual 82, 3) := by decide +kernel
theorem dX4_canBe_27 : decode cX4_canBe 27 = .ok (.ireturn, 1) := by decide +kernel
theorem dX4_canBe_28 : decode cX4_canBe 28 = .ok (.aload_n 0, 1) := by decide +kernel
theorem dX4_canBe_29 : decode cX4_canBe 29 = .ok (.getfield 10, 3) := by decide +kernel
theorem dX4_canBe_32 : decode cX4_canBe 32 = .ok (.iload_n 1, 1) := by decide +kernel
theorem dX4_canBe_33 : decode cX4_canBe 33 = .ok (.ldc2_w 63, 3) := by decide +kernel
theorem dX4_canBe_36 : decode cX4_canBe 36 = .ok (.invokevirtual 216, 3) := by decide +kernel
theorem dX4_canBe_39 : decode cX4_canBe 39 = .ok (.iload_n 2, 1) := by decide +kernel
theorem dX4_canBe_40 : decode cX4_canBe 40 = .ok (.invokestatic 220, 3) := by decide +kernel
theorem dX4_canBe_43 : decode cX4_canBe 43 = .ok (.ireturn, 1) := by decide +kernel
theorem dX4_can_0 : decode cX4_can 0 = .ok (.aload_n 0, 1) := by decide +kernel
theorem dX4_can_1 : decode cX4_can 1 = .ok (.getfield 10, 3) := by decide +kernel
theorem dX4_can_4 : decode cX4_can 4 = .ok (.iload_n 1, 1) := by decide +kernel
theorem dX4_can_5 : decode cX4_can 5 = .ok (.invokevirtual 119, 3) := by decide +kernel
theorem dX4_can_8 : decode cX4_can 8 = .ok (.ifCond .eq 14, 3) := by decide +kernel
theorem dX4_can_11 : decode cX4_can 11 = .ok (.aload_n 0, 1) := by decide +kernel
theorem dX4_can_12 : decode cX4_can 12 = .ok (.getfield 10, 3) := by decide +kernel
theorem dX4_can_15 : decode cX4_can 15 = .ok (.iload_n 2, 1) := by decide +kernel
theorem dX4_can_16 : decode cX4_can 16 = .ok (.invokevirtual 158, 3) := by decide +kernel
theorem dX4_can_19 : decode cX4_can 19 = .ok (.ifCond .ne 9, 3) := by decide +kernel
theorem dX4_can_22 : decode cX4_can 22 = .ok (.aload_n 0, 1) := by decide +kernel
theorem dX4_can_23 : decode cX4_can 23 = .ok (.iconst (-1), 1) := by decide +kernel
theorem dX4_can_24 : decode cX4_can 24 = .ok (.invokevirtual 82, 3) := by decide +kernel
theorem dX4_can_27 : decode cX4_can 27 = .ok (.ireturn, 1) := by decide +kernel
theorem dX4_can_28 : decode cX4_can 28 = .ok (.iload_n 3, 1) := by decide +kernel
theorem dX4_can_29 : decode cX4_can 29 = .ok (.iconst 0, 1) := by decide +kernel
theorem dX4_can_30 : decode cX4_can 30 = .ok (.iconst 3, 1) := by decide +kernel
theorem dX4_can_31 : decode cX4_can 31 = .ok (.invokestatic 85, 3) := by decide +kernel
theorem dX4_can_34 : decode cX4_can 34 = .ok (.ifCond .ne 10, 3) := by decide +kernel
theorem dX4_can_37 : decode cX4_can 37 = .ok (.aload_n 0, 1) := by decide +kernel
theorem dX4_can_38 : decode cX4_can 38 = .ok (.bipush (-5), 2) := by decide +kernel
theorem dX4_can_40 : decode cX4_can 40 = .ok (.invokevirtual 82, 3) := by decide +kernel
theorem dX4_can_43 : decode cX4_can 43 = .ok (.ireturn, 1) := by decide +kernel
theorem dX4_can_44 : decode cX4_can 44 = .ok (.aload_n 0, 1) := by decide +kernel
theorem dX4_can_45 : decode cX4_can 45 = .ok (.getfield 10, 3) := by decide +kernel
theorem dX4_can_48 : decode cX4_can 48 = .ok (.iload_n 1, 1) := by decide +kernel
theorem dX4_can_49 : decode cX4_can 49 = .ok (.invokevirtual 164, 3) := by decide +kernel
theorem dX4_can_52 : decode cX4_can 52 = .ok (.ifCond .eq 5, 3) := by decide +kernel
theorem dX4_can_55 : decode cX4_can 55 = .ok (.iconst 0, 1) := by decide +kernel
theorem dX4_can_56 : decode cX4_can 56 = .ok (.ireturn, 1) := by decide +kernel
theorem dX4_can_57 : decode cX4_can 57 = .ok (.aload_n 0, 1) := by decide +kernel
theorem dX4_can_58 : decode cX4_can 58 = .ok (.getfield 10, 3) := by decide +kernel
theorem dX4_can_61 : decode cX4_can 61 = .ok (.ldc2_w 63, 3) := by decide +kernel
theorem dX4_can_64 : decode cX4_can 64 = .ok (.invokevirtual 167, 3) := by decide +kernel
theorem dX4_can_67 : decode cX4_can 67 = .ok (.lstore 4, 2) := by decide +kernel
theorem dX4_can_69 : decode cX4_can 69 = .ok (.aload_n 0, 1) := by decide +kernel
theorem dX4_can_70 : decode cX4_can 70 = .ok (.getfield 10, 3) := by decide +kernel
theorem dX4_can_73 : decode cX4_can 73 = .ok (.iload_n 1, 1) := by decide +kernel
theorem dX4_can_74 : decode cX4_can 74 = .ok (.iload_n 2, 1) := by decide +kernel
theorem dX4_can_75 : decode cX4_can 75 = .ok (.iconst 1, 1) := by decide +kernel
theorem dX4_can_76 : decode cX4_can 76 = .ok (.lload 4, 2) := by decide +kernel
theorem dX4_can_78 : decode cX4_can 78 = .ok (.invokevirtual 171, 3) := by decide +kernel
theorem dX4_can_81 : decode cX4_can 81 = .ok (.lstore 6, 2) := by decide +kernel
theorem dX4_can_83 : decode cX4_can 83 = .ok (.aload_n 0, 1) := by decide +kernel
theorem dX4_can_84 : decode cX4_can 84 = .ok (.getfield 10, 3) := by decide +kernel
theorem dX4_can_87 : decode cX4_can 87 = .ok (.iload_n 1, 1) := by decide +kernel
theorem dX4_can_88 : decode cX4_can 88 = .ok (.iload_n 2, 1) := by decide +kernel
theorem dX4_can_89 : decode cX4_can 89 = .ok (.iconst 0, 1) := by decide +kernel
theorem dX4_can_90 : decode cX4_can 90 = .ok (.lload 4, 2) := by decide +kernel
theorem dX4_can_92 : decode cX4_can 92 = .ok (.invokevirtual 171, 3) := by decide +kernel
theorem dX4_can_95 : decode cX4_can 95 = .ok (.lstore 8, 2) := by decide +kernel
theorem dX4_can_97 : decode cX4_can 97 = .ok (.iload_n 3, 1) := by decide +kernel
theorem dX4_can_98 : decode cX4_can 98 = .ok (.tableswitch 82 0 2 #[26, 51, 76], 26) := by decide +kernel
theorem dX4_can_124 : decode cX4_can 124 = .ok (.lload 6, 2) := by decide +kernel
theorem dX4_can_126 : decode cX4_can 126 = .ok (.getstatic 59, 3) := by decide +kernel
theorem dX4_can_129 : decode cX4_can 129 = .ok (.iload_n 2, 1) := by decide +kernel
theorem dX4_can_130 : decode cX4_can 130 = .ok (.laload, 1) := by decide +kernel
theorem dX4_can_131 : decode cX4_can 131 = .ok (.ldc2_w 63, 3) := by decide +kernel
theorem dX4_can_134 : decode cX4_can 134 = .ok (.lxor, 1) := by decide +kernel
theorem dX4_can_135 : decode cX4_can 135 = .ok (.land, 1) := by decide +kernel
theorem dX4_can_136 : decode cX4_can 136 = .ok (.lload 8, 2) := by decide +kernel
theorem dX4_can_138 : decode cX4_can 138 = .ok (.getstatic 59, 3) := by decide +kernel
theorem dX4_can_141 : decode cX4_can 141 = .ok (.iload_n 2, 1) := by decide +kernel
theorem dX4_can_142 : decode cX4_can 142 = .ok (.laload, 1) := by decide +kernel
theorem dX4_can_143 : decode cX4_can 143 = .ok (.land, 1) := by decide +kernel
theorem dX4_can_144 : decode cX4_can 144 = .ok (.lor, 1) := by decide +kernel
theorem dX4_can_145 : decode cX4_can 145 = .ok (.invokestatic 224, 3) := by decide +kernel
theorem dX4_can_148 : decode cX4_can 148 = .ok (.ireturn, 1) := by decide +kernel
theorem dX4_can_149 : decode cX4_can 149 = .ok (.lload 6, 2) := by decide +kernel
theorem dX4_can_151 : decode cX4_can 151 = .ok (.getstatic 59, 3) := by decide +kernel
theorem dX4_can_154 : decode cX4_can 154 = .ok (.iload_n 2, 1) := by decide +kernel
theorem dX4_can_155 : decode cX4_can 155 = .ok (.laload, 1) := by decide +kernel
theorem dX4_can_156 : decode cX4_can 156 = .ok (.land, 1) := by decide +kernel
theorem dX4_can_157 : decode cX4_can 157 = .ok (.lload 8, 2) := by decide +kernel
theorem dX4_can_159 : decode cX4_can 159 = .ok (.getstatic 59, 3) := by decide +kernel
theorem dX4_can_162 : decode cX4_can 162 = .ok (.iload_n 2, 1) := by decide +kernel
theorem dX4_can_163 : decode cX4_can 163 = .ok (.laload, 1) := by decide +kernel
theorem dX4_can_164 : decode cX4_can 164 = .ok (.ldc2_w 63, 3) := by decide +kernel
theorem dX4_can_167 : decode cX4_can 167 = .ok (.lxor, 1) := by decide +kernel
theorem dX4_can_168 : decode cX4_can 168 = .ok (.land, 1) := by decide +kernel
theorem dX4_can_169 : decode cX4_can 169 = .ok (.lor, 1) := by decide +kernel
theorem dX4_can_170 : decode cX4_can 170 = .ok (.invokestatic 224, 3) := by decide +kernel
theorem dX4_can_173 : decode cX4_can 173 = .ok (.ireturn, 1) := by decide +kernel
theorem dX4_can_174 : decode cX4_can 174 = .ok (.lload 6, 2) := by decide +kernel
theorem dX4_can_176 : decode cX4_can 176 = .ok (.invokestatic 224, 3) := by decide +kernel
theorem dX4_can_179 : decode cX4_can 179 = .ok (.ireturn, 1) := by decide +kernel
theorem dX4_can_180 : decode cX4_can 180 = .ok (.lload 8, 2) := by decide +kernel
theorem dX4_can_182 : decode cX4_can 182 = .ok (.invokestatic 224, 3) := by decide +kernel
theorem dX4_can_185 : decode cX4_can 185 = .ok (.ireturn, 1) := by decide +kernel
theorem dX4_isAny_0 : decode cX4_isAny 0 = .ok (.lload_n 0, 1) := by decide +kernel
theorem dX4_isAny_1 : decode cX4_isAny 1 = .ok (.lconst 0, 1) := by decide +kernel
theorem dX4_isAny_2 : decode cX4_isAny 2 = .ok (.lcmp, 1) := by decide +kernel
theorem dX4_isAny_3 : decode cX4_isAny 3 = .ok (.ifCond .ne 7, 3) := by decide +kernel
theorem dX4_isAny_6 : decode cX4_isAny 6 = .ok (.iconst 0, 1) := by decide +kernel
theorem dX4_isAny_7 : decode cX4_isAny 7 = .ok (.goto 4, 3) := by decide +kernel
theorem dX4_isAny_10 : decode cX4_isAny 10 = .ok (.iconst 1, 1) := by decide +kernel
theorem dX4_isAny_11 : decode cX4_isAny 11 = .ok (.ireturn, 1) := by decide +kernel
theorem dX4_bit_0 : decode cX4_bit 0 = .ok (.lload_n 0, 1) := by decide +kernel
theorem dX4_bit_1 : decode cX4_bit 1 = .ok (.iload_n 2, 1) := by decide +kernel
theorem dX4_bit_2 : decode cX4_bit 2 = .ok (.lushr, 1) := by decide +kernel
theorem dX4_bit_3 : decode cX4_bit 3 = .ok (.lconst 1, 1) := by decide +kernel
theorem dX4_bit_4 : decode cX4_bit 4 = .ok (.land, 1) := by decide +kernel
theorem dX4_bit_5 : decode cX4_bit 5 = .ok (.l2i, 1) := by decide +kernel
theorem dX4_bit_6 : decode cX4_bit 6 = .ok (.ireturn, 1) := by decide +kernel
theorem dX4_worlds_0 : decode cX4_worlds 0 = .ok (.aload_n 0, 1) := by decide +kernel
theorem dX4_worlds_1 : decode cX4_worlds 1 = .ok (.getfield 10, 3) := by decide +kernel
theorem dX4_worlds_4 : decode cX4_worlds 4 = .ok (.ldc2_w 63, 3) := by decide +kernel
theorem dX4_worlds_7 : decode cX4_worlds 7 = .ok (.invokevirtual 167, 3) := by decide +kernel
theorem dX4_worlds_10 : decode cX4_worlds 10 = .ok (.lreturn, 1) := by decide +kernel
theorem dX4_many_0 : decode cX4_many 0 = .ok (.aload_n 0, 1) := by decide +kernel
theorem dX4_many_1 : decode cX4_many 1 = .ok (.getfield 10, 3) := by decide +kernel
theorem dX4_many_4 : decode cX4_many 4 = .ok (.ldc2_w 63, 3) := by decide +kernel
theorem dX4_many_7 : decode cX4_many 7 = .ok (.invokevirtual 167, 3) := by decide +kernel
theorem dX4_many_10 : decode cX4_many 10 = .ok (.invokestatic 178, 3) := by decide +kernel
theorem dX4_many_13 : decode cX4_many 13 = .ok (.ireturn, 1) := by decide +kernel
theorem dX4_sure_0 : decode cX4_sure 0 = .ok (.aload_n 0, 1) := by decide +kernel
theorem dX4_sure_1 : decode cX4_sure 1 = .ok (.getfield 10, 3) := by decide +kernel
theorem dX4_sure_4 : decode cX4_sure 4 = .ok (.iload_n 1, 1) := by decide +kernel
theorem dX4_sure_5 : decode cX4_sure 5 = .ok (.invokevirtual 158, 3) := by decide +kernel
theorem dX4_sure_8 : decode cX4_sure 8 = .ok (.ifCond .ne 11, 3) := by decide +kernel
theorem dX4_sure_11 : decode cX4_sure 11 = .ok (.aload_n 0, 1) := by decide +kernel
theorem dX4_sure_12 : decode cX4_sure 12 = .ok (.iconst (-1), 1) := by decide +kernel
theorem dX4_sure_13 : decode cX4_sure 13 = .ok (.bipush (-11), 2) := by decide +kernel
theorem dX4_sure_15 : decode cX4_sure 15 = .ok (.invokevirtual 55, 3) := by decide +kernel
theorem dX4_sure_18 : decode cX4_sure 18 = .ok (.ireturn, 1) := by decide +kernel
theorem dX4_sure_19 : decode cX4_sure 19 = .ok (.aload_n 0, 1) := by decide +kernel
theorem dX4_sure_20 : decode cX4_sure 20 = .ok (.getfield 10, 3) := by decide +kernel
theorem dX4_sure_23 : decode cX4_sure 23 = .ok (.ldc2_w 63, 3) := by decide +kernel
theorem dX4_sure_26 : decode cX4_sure 26 = .ok (.invokevirtual 167, 3) := by decide +kernel
theorem dX4_sure_29 : decode cX4_sure 29 = .ok (.iload_n 1, 1) := by decide +kernel
theorem dX4_sure_30 : decode cX4_sure 30 = .ok (.invokestatic 227, 3) := by decide +kernel
theorem dX4_sure_33 : decode cX4_sure 33 = .ok (.ireturn, 1) := by decide +kernel
theorem dX4_surety_0 : decode cX4_surety 0 = .ok (.lload_n 0, 1) := by decide +kernel
theorem dX4_surety_1 : decode cX4_surety 1 = .ok (.getstatic 59, 3) := by decide +kernel
theorem dX4_surety_4 : decode cX4_surety 4 = .ok (.iload_n 2, 1) := by decide +kernel
theorem dX4_surety_5 : decode cX4_surety 5 = .ok (.laload, 1) := by decide +kernel
theorem dX4_surety_6 : decode cX4_surety 6 = .ok (.land, 1) := by decide +kernel
theorem dX4_surety_7 : decode cX4_surety 7 = .ok (.lconst 0, 1) := by decide +kernel
theorem dX4_surety_8 : decode cX4_surety 8 = .ok (.lcmp, 1) := by decide +kernel
theorem dX4_surety_9 : decode cX4_surety 9 = .ok (.ifCond .eq 7, 3) := by decide +kernel
theorem dX4_surety_12 : decode cX4_surety 12 = .ok (.iconst 1, 1) := by decide +kernel
theorem dX4_surety_13 : decode cX4_surety 13 = .ok (.goto 4, 3) := by decide +kernel
theorem dX4_surety_16 : decode cX4_surety 16 = .ok (.iconst 0, 1) := by decide +kernel
theorem dX4_surety_17 : decode cX4_surety 17 = .ok (.istore_n 3, 1) := by decide +kernel
theorem dX4_surety_18 : decode cX4_surety 18 = .ok (.lload_n 0, 1) := by decide +kernel
theorem dX4_surety_19 : decode cX4_surety 19 = .ok (.getstatic 59, 3) := by decide +kernel
theorem dX4_surety_22 : decode cX4_surety 22 = .ok (.iload_n 2, 1) := by decide +kernel
theorem dX4_surety_23 : decode cX4_surety 23 = .ok (.laload, 1) := by decide +kernel
theorem dX4_surety_24 : decode cX4_surety 24 = .ok (.ldc2_w 63, 3) := by decide +kernel
theorem dX4_surety_27 : decode cX4_surety 27 = .ok (.lxor, 1) := by decide +kernel
theorem dX4_surety_28 : decode cX4_surety 28 = .ok (.land, 1) := by decide +kernel
theorem dX4_surety_29 : decode cX4_surety 29 = .ok (.lconst 0, 1) := by decide +kernel
theorem dX4_surety_30 : decode cX4_surety 30 = .ok (.lcmp, 1) := by decide +kernel
theorem dX4_surety_31 : decode cX4_surety 31 = .ok (.ifCond .eq 7, 3) := by decide +kernel
theorem dX4_surety_34 : decode cX4_surety 34 = .ok (.iconst 1, 1) := by decide +kernel
theorem dX4_surety_35 : decode cX4_surety 35 = .ok (.goto 4, 3) := by decide +kernel
theorem dX4_surety_38 : decode cX4_surety 38 = .ok (.iconst 0, 1) := by decide +kernel
theorem dX4_surety_39 : decode cX4_surety 39 = .ok (.istore 4, 2) := by decide +kernel
theorem dX4_surety_41 : decode cX4_surety 41 = .ok (.iload_n 3, 1) := by decide +kernel
theorem dX4_surety_42 : decode cX4_surety 42 = .ok (.iload 4, 2) := by decide +kernel
theorem dX4_surety_44 : decode cX4_surety 44 = .ok (.if_icmp .ne 5, 3) := by decide +kernel
theorem dX4_surety_47 : decode cX4_surety 47 = .ok (.iconst (-1), 1) := by decide +kernel
theorem dX4_surety_48 : decode cX4_surety 48 = .ok (.ireturn, 1) := by decide +kernel
theorem dX4_surety_49 : decode cX4_surety 49 = .ok (.iload_n 3, 1) := by decide +kernel
theorem dX4_surety_50 : decode cX4_surety 50 = .ok (.ifCond .eq 7, 3) := by decide +kernel
theorem dX4_surety_53 : decode cX4_surety 53 = .ok (.iconst 1, 1) := by decide +kernel
theorem dX4_surety_54 : decode cX4_surety 54 = .ok (.goto 4, 3) := by decide +kernel
theorem dX4_surety_57 : decode cX4_surety 57 = .ok (.iconst 0, 1) := by decide +kernel
theorem dX4_surety_58 : decode cX4_surety 58 = .ok (.ireturn, 1) := by decide +kernel
theorem dX4_sures_0 : decode cX4_sures 0 = .ok (.aload_n 0, 1) := by decide +kernel
theorem dX4_sures_1 : decode cX4_sures 1 = .ok (.getfield 10, 3) := by decide +kernel
theorem dX4_sures_4 : decode cX4_sures 4 = .ok (.ldc2_w 63, 3) := by decide +kernel
theorem dX4_sures_7 : decode cX4_sures 7 = .ok (.invokevirtual 167, 3) := by decide +kernel
theorem dX4_sures_10 : decode cX4_sures 10 = .ok (.lstore_n 1, 1) := by decide +kernel
theorem dX4_sures_11 : decode cX4_sures 11 = .ok (.iconst 0, 1) := by decide +kernel
theorem dX4_sures_12 : decode cX4_sures 12 = .ok (.istore_n 3, 1) := by decide +kernel
theorem dX4_sures_13 : decode cX4_sures 13 = .ok (.iconst 0, 1) := by decide +kernel
theorem dX4_sures_14 : decode cX4_sures 14 = .ok (.istore 4, 2) := by decide +kernel
theorem dX4_sures_16 : decode cX4_sures 16 = .ok (.iload 4, 2) := by decide +kernel
theorem dX4_sures_18 : decode cX4_sures 18 = .ok (.aload_n 0, 1) := by decide +kernel
theorem dX4_sures_19 : decode cX4_sures 19 = .ok (.getfield 10, 3) := by decide +kernel
theorem dX4_sures_22 : decode cX4_sures 22 = .ok (.getfield 133, 3) := by decide +kernel
theorem dX4_sures_25 : decode cX4_sures 25 = .ok (.if_icmp .ge 26, 3) := by decide +kernel
theorem dX4_sures_28 : decode cX4_sures 28 = .ok (.lload_n 1, 1) := by decide +kernel
theorem dX4_sures_29 : decode cX4_sures 29 = .ok (.iload 4, 2) := by decide +kernel
theorem dX4_sures_31 : decode cX4_sures 31 = .ok (.invokestatic 227, 3) := by decide +kernel
theorem dX4_sures_34 : decode cX4_sures 34 = .ok (.iconst (-1), 1) := by decide +kernel
theorem dX4_sures_35 : decode cX4_sures 35 = .ok (.if_icmp .eq 10, 3) := by decide +kernel
theorem dX4_sures_38 : decode cX4_sures 38 = .ok (.iload_n 3, 1) := by decide +kernel
theorem dX4_sures_39 : decode cX4_sures 39 = .ok (.iconst 1, 1) := by decide +kernel
theorem dX4_sures_40 : decode cX4_sures 40 = .ok (.iload 4, 2) := by decide +kernel
theorem dX4_sures_42 : decode cX4_sures 42 = .ok (.ishl, 1) := by decide +kernel
theorem dX4_sures_43 : decode cX4_sures 43 = .ok (.ior, 1) := by decide +kernel
theorem dX4_sures_44 : decode cX4_sures 44 = .ok (.istore_n 3, 1) := by decide +kernel
theorem dX4_sures_45 : decode cX4_sures 45 = .ok (.iinc 4 1, 3) := by decide +kernel
theorem dX4_sures_48 : decode cX4_sures 48 = .ok (.goto (-32), 3) := by decide +kernel
theorem dX4_sures_51 : decode cX4_sures 51 = .ok (.iload_n 3, 1) := by decide +kernel
theorem dX4_sures_52 : decode cX4_sures 52 = .ok (.ireturn, 1) := by decide +kernel
theorem dX4_shown_0 : decode cX4_shown 0 = .ok (.aload_n 0, 1) := by decide +kernel
theorem dX4_shown_1 : decode cX4_shown 1 = .ok (.getfield 10, 3) := by decide +kernel
theorem dX4_shown_4 : decode cX4_shown 4 = .ok (.iload_n 1, 1) := by decide +kernel
theorem dX4_shown_5 : decode cX4_shown 5 = .ok (.invokevirtual 158, 3) := by decide +kernel
theorem dX4_shown_8 : decode cX4_shown 8 = .ok (.ifCond .ne 9, 3) := by decide +kernel
theorem dX4_shown_11 : decode cX4_shown 11 = .ok (.aload_n 0, 1) := by decide +kernel
theorem dX4_shown_12 : decode cX4_shown 12 = .ok (.iconst (-1), 1) := by decide +kernel
theorem dX4_shown_13 : decode cX4_shown 13 = .ok (.invokevirtual 82, 3) := by decide +kernel
theorem dX4_shown_16 : decode cX4_shown 16 = .ok (.ireturn, 1) := by decide +kernel
theorem dX4_shown_17 : decode cX4_shown 17 = .ok (.aload_n 0, 1) := by decide +kernel
theorem dX4_shown_18 : decode cX4_shown 18 = .ok (.getfield 10, 3) := by decide +kernel
theorem dX4_shown_21 : decode cX4_shown 21 = .ok (.ldc2_w 63, 3) := by decide +kernel
theorem dX4_shown_24 : decode cX4_shown 24 = .ok (.invokevirtual 167, 3) := by decide +kernel
theorem dX4_shown_27 : decode cX4_shown 27 = .ok (.iload_n 1, 1) := by decide +kernel
theorem dX4_shown_28 : decode cX4_shown 28 = .ok (.invokestatic 227, 3) := by decide +kernel
theorem dX4_shown_31 : decode cX4_shown 31 = .ok (.iconst (-1), 1) := by decide +kernel
theorem dX4_shown_32 : decode cX4_shown 32 = .ok (.if_icmp .ne 10, 3) := by decide +kernel
theorem dX4_shown_35 : decode cX4_shown 35 = .ok (.aload_n 0, 1) := by decide +kernel
theorem dX4_shown_36 : decode cX4_shown 36 = .ok (.bipush (-5), 2) := by decide +kernel
theorem dX4_shown_38 : decode cX4_shown 38 = .ok (.invokevirtual 82, 3) := by decide +kernel
theorem dX4_shown_41 : decode cX4_shown 41 = .ok (.ireturn, 1) := by decide +kernel
theorem dX4_shown_42 : decode cX4_shown 42 = .ok (.iconst 0, 1) := by decide +kernel
theorem dX4_shown_43 : decode cX4_shown 43 = .ok (.istore_n 2, 1) := by decide +kernel
theorem dX4_shown_44 : decode cX4_shown 44 = .ok (.iload_n 2, 1) := by decide +kernel
theorem dX4_shown_45 : decode cX4_shown 45 = .ok (.aload_n 0, 1) := by decide +kernel
theorem dX4_shown_46 : decode cX4_shown 46 = .ok (.getfield 10, 3) := by decide +kernel
theorem dX4_shown_49 : decode cX4_shown 49 = .ok (.getfield 146, 3) := by decide +kernel
theorem dX4_shown_52 : decode cX4_shown 52 = .ok (.if_icmp .ge 31, 3) := by decide +kernel
theorem dX4_shown_55 : decode cX4_shown 55 = .ok (.aload_n 0, 1) := by decide +kernel
theorem dX4_shown_56 : decode cX4_shown 56 = .ok (.getfield 10, 3) := by decide +kernel
theorem dX4_shown_59 : decode cX4_shown 59 = .ok (.lconst 1, 1) := by decide +kernel
theorem dX4_shown_60 : decode cX4_shown 60 = .ok (.iload_n 2, 1) := by decide +kernel
theorem dX4_shown_61 : decode cX4_shown 61 = .ok (.lshl, 1) := by decide +kernel
theorem dX4_shown_62 : decode cX4_shown 62 = .ok (.lconst 1, 1) := by decide +kernel
theorem dX4_shown_63 : decode cX4_shown 63 = .ok (.lsub, 1) := by decide +kernel
theorem dX4_shown_64 : decode cX4_shown 64 = .ok (.invokevirtual 167, 3) := by decide +kernel
theorem dX4_shown_67 : decode cX4_shown 67 = .ok (.iload_n 1, 1) := by decide +kernel
theorem dX4_shown_68 : decode cX4_shown 68 = .ok (.invokestatic 227, 3) := by decide +kernel
theorem dX4_shown_71 : decode cX4_shown 71 = .ok (.iconst (-1), 1) := by decide +kernel
theorem dX4_shown_72 : decode cX4_shown 72 = .ok (.if_icmp .eq 5, 3) := by decide +kernel
theorem dX4_shown_75 : decode cX4_shown 75 = .ok (.iload_n 2, 1) := by decide +kernel
theorem dX4_shown_76 : decode cX4_shown 76 = .ok (.ireturn, 1) := by decide +kernel
theorem dX4_shown_77 : decode cX4_shown 77 = .ok (.iinc 2 1, 3) := by decide +kernel
theorem dX4_shown_80 : decode cX4_shown 80 = .ok (.goto (-36), 3) := by decide +kernel
theorem dX4_shown_83 : decode cX4_shown 83 = .ok (.aload_n 0, 1) := by decide +kernel
theorem dX4_shown_84 : decode cX4_shown 84 = .ok (.getfield 10, 3) := by decide +kernel
theorem dX4_shown_87 : decode cX4_shown 87 = .ok (.getfield 146, 3) := by decide +kernel
theorem dX4_shown_90 : decode cX4_shown 90 = .ok (.ireturn, 1) := by decide +kernel
theorem dX4_proof_0 : decode cX4_proof 0 = .ok (.aload_n 0, 1) := by decide +kernel
theorem dX4_proof_1 : decode cX4_proof 1 = .ok (.getfield 10, 3) := by decide +kernel
theorem dX4_proof_4 : decode cX4_proof 4 = .ok (.iload_n 1, 1) := by decide +kernel
theorem dX4_proof_5 : decode cX4_proof 5 = .ok (.invokevirtual 158, 3) := by decide +kernel
theorem dX4_proof_8 : decode cX4_proof 8 = .ok (.ifCond .ne 9, 3) := by decide +kernel
theorem dX4_proof_11 : decode cX4_proof 11 = .ok (.aload_n 0, 1) := by decide +kernel
theorem dX4_proof_12 : decode cX4_proof 12 = .ok (.iconst (-1), 1) := by decide +kernel
theorem dX4_proof_13 : decode cX4_proof 13 = .ok (.invokevirtual 82, 3) := by decide +kernel
theorem dX4_proof_16 : decode cX4_proof 16 = .ok (.ireturn, 1) := by decide +kernel
theorem dX4_proof_17 : decode cX4_proof 17 = .ok (.aload_n 0, 1) := by decide +kernel
theorem dX4_proof_18 : decode cX4_proof 18 = .ok (.getfield 10, 3) := by decide +kernel
theorem dX4_proof_21 : decode cX4_proof 21 = .ok (.ldc2_w 63, 3) := by decide +kernel
theorem dX4_proof_24 : decode cX4_proof 24 = .ok (.invokevirtual 167, 3) := by decide +kernel
theorem dX4_proof_27 : decode cX4_proof 27 = .ok (.iload_n 1, 1) := by decide +kernel
theorem dX4_proof_28 : decode cX4_proof 28 = .ok (.invokestatic 227, 3) := by decide +kernel
theorem dX4_proof_31 : decode cX4_proof 31 = .ok (.istore_n 2, 1) := by decide +kernel
theorem dX4_proof_32 : decode cX4_proof 32 = .ok (.iload_n 2, 1) := by decide +kernel
theorem dX4_proof_33 : decode cX4_proof 33 = .ok (.iconst (-1), 1) := by decide +kernel
theorem dX4_proof_34 : decode cX4_proof 34 = .ok (.if_icmp .ne 10, 3) := by decide +kernel
theorem dX4_proof_37 : decode cX4_proof 37 = .ok (.aload_n 0, 1) := by decide +kernel
theorem dX4_proof_38 : decode cX4_proof 38 = .ok (.bipush (-5), 2) := by decide +kernel
theorem dX4_proof_40 : decode cX4_proof 40 = .ok (.invokevirtual 82, 3) := by decide +kernel
theorem dX4_proof_43 : decode cX4_proof 43 = .ok (.ireturn, 1) := by decide +kernel
theorem dX4_proof_44 : decode cX4_proof 44 = .ok (.aload_n 0, 1) := by decide +kernel
theorem dX4_proof_45 : decode cX4_proof 45 = .ok (.getfield 10, 3) := by decide +kernel
theorem dX4_proof_48 : decode cX4_proof 48 = .ok (.getfield 146, 3) := by decide +kernel
theorem dX4_proof_51 : decode cX4_proof 51 = .ok (.bipush 10, 2) := by decide +kernel
theorem dX4_proof_53 : decode cX4_proof 53 = .ok (.if_icmp .le 10, 3) := by decide +kernel
theorem dX4_proof_56 : decode cX4_proof 56 = .ok (.aload_n 0, 1) := by decide +kernel
theorem dX4_proof_57 : decode cX4_proof 57 = .ok (.bipush (-7), 2) := by decide +kernel
theorem dX4_proof_59 : decode cX4_proof 59 = .ok (.invokevirtual 82, 3) := by decide +kernel
theorem dX4_proof_62 : decode cX4_proof 62 = .ok (.ireturn, 1) := by decide +kernel
theorem dX4_proof_63 : decode cX4_proof 63 = .ok (.aload_n 0, 1) := by decide +kernel
theorem dX4_proof_64 : decode cX4_proof 64 = .ok (.getfield 10, 3) := by decide +kernel
theorem dX4_proof_67 : decode cX4_proof 67 = .ok (.getfield 146, 3) := by decide +kernel
theorem dX4_proof_70 : decode cX4_proof 70 = .ok (.istore_n 3, 1) := by decide +kernel
theorem dX4_proof_71 : decode cX4_proof 71 = .ok (.iconst 0, 1) := by decide +kernel
theorem dX4_proof_72 : decode cX4_proof 72 = .ok (.istore 4, 2) := by decide +kernel
theorem dX4_proof_74 : decode cX4_proof 74 = .ok (.iload 4, 2) := by decide +kernel
theorem dX4_proof_76 : decode cX4_proof 76 = .ok (.iconst 1, 1) := by decide +kernel
theorem dX4_proof_77 : decode cX4_proof 77 = .ok (.aload_n 0, 1) := by decide +kernel
theorem dX4_proof_78 : decode cX4_proof 78 = .ok (.getfield 10, 3) := by decide +kernel
theorem dX4_proof_81 : decode cX4_proof 81 = .ok (.getfield 146, 3) := by decide +kernel
theorem dX4_proof_84 : decode cX4_proof 84 = .ok (.ishl, 1) := by decide +kernel
theorem dX4_proof_85 : decode cX4_proof 85 = .ok (.if_icmp .ge 43, 3) := by decide +kernel
theorem dX4_proof_88 : decode cX4_proof 88 = .ok (.iload 4, 2) := by decide +kernel
theorem dX4_proof_90 : decode cX4_proof 90 = .ok (.invokestatic 230, 3) := by decide +kernel
theorem dX4_proof_93 : decode cX4_proof 93 = .ok (.istore 5, 2) := by decide +kernel
theorem dX4_proof_95 : decode cX4_proof 95 = .ok (.iload 5, 2) := by decide +kernel
theorem dX4_proof_97 : decode cX4_proof 97 = .ok (.iload_n 3, 1) := by decide +kernel
theorem dX4_proof_98 : decode cX4_proof 98 = .ok (.if_icmp .ge 24, 3) := by decide +kernel
theorem dX4_proof_101 : decode cX4_proof 101 = .ok (.aload_n 0, 1) := by decide +kernel
theorem dX4_proof_102 : decode cX4_proof 102 = .ok (.getfield 10, 3) := by decide +kernel
theorem dX4_proof_105 : decode cX4_proof 105 = .ok (.iload 4, 2) := by decide +kernel
theorem dX4_proof_107 : decode cX4_proof 107 = .ok (.i2l, 1) := by decide +kernel
theorem dX4_proof_108 : decode cX4_proof 108 = .ok (.invokevirtual 167, 3) := by decide +kernel
theorem dX4_proof_111 : decode cX4_proof 111 = .ok (.iload_n 1, 1) := by decide +kernel
theorem dX4_proof_112 : decode cX4_proof 112 = .ok (.invokestatic 227, 3) := by decide +kernel
theorem dX4_proof_115 : decode cX4_proof 115 = .ok (.iload_n 2, 1) := by decide +kernel
theorem dX4_proof_116 : decode cX4_proof 116 = .ok (.if_icmp .ne 6, 3) := by decide +kernel
theorem dX4_proof_119 : decode cX4_proof 119 = .ok (.iload 5, 2) := by decide +kernel
theorem dX4_proof_121 : decode cX4_proof 121 = .ok (.istore_n 3, 1) := by decide +kernel
theorem dX4_proof_122 : decode cX4_proof 122 = .ok (.iinc 4 1, 3) := by decide +kernel
theorem dX4_proof_125 : decode cX4_proof 125 = .ok (.goto (-51), 3) := by decide +kernel
theorem dX4_proof_128 : decode cX4_proof 128 = .ok (.iload_n 3, 1) := by decide +kernel
theorem dX4_proof_129 : decode cX4_proof 129 = .ok (.ireturn, 1) := by decide +kernel
theorem dX4_worst_0 : decode cX4_worst 0 = .ok (.aload_n 0, 1) := by decide +kernel
theorem dX4_worst_1 : decode cX4_worst 1 = .ok (.getfield 10, 3) := by decide +kernel
theorem dX4_worst_4 : decode cX4_worst 4 = .ok (.iload_n 1, 1) := by decide +kernel
theorem dX4_worst_5 : decode cX4_worst 5 = .ok (.invokevirtual 119, 3) := by decide +kernel
theorem dX4_worst_8 : decode cX4_worst 8 = .ok (.ifCond .eq 14, 3) := by decide +kernel
theorem dX4_worst_11 : decode cX4_worst 11 = .ok (.aload_n 0, 1) := by decide +kernel
theorem dX4_worst_12 : decode cX4_worst 12 = .ok (.getfield 10, 3) := by decide +kernel
theorem dX4_worst_15 : decode cX4_worst 15 = .ok (.iload_n 2, 1) := by decide +kernel
theorem dX4_worst_16 : decode cX4_worst 16 = .ok (.invokevirtual 158, 3) := by decide +kernel
theorem dX4_worst_19 : decode cX4_worst 19 = .ok (.ifCond .ne 9, 3) := by decide +kernel
theorem dX4_worst_22 : decode cX4_worst 22 = .ok (.aload_n 0, 1) := by decide +kernel
theorem dX4_worst_23 : decode cX4_worst 23 = .ok (.iconst (-1), 1) := by decide +kernel
theorem dX4_worst_24 : decode cX4_worst 24 = .ok (.invokevirtual 82, 3) := by decide +kernel
theorem dX4_worst_27 : decode cX4_worst 27 = .ok (.ireturn, 1) := by decide +kernel
theorem dX4_worst_28 : decode cX4_worst 28 = .ok (.aload_n 0, 1) := by decide +kernel
theorem dX4_worst_29 : decode cX4_worst 29 = .ok (.getfield 10, 3) := by decide +kernel
theorem dX4_worst_32 : decode cX4_worst 32 = .ok (.iload_n 1, 1) := by decide +kernel
theorem dX4_worst_33 : decode cX4_worst 33 = .ok (.invokevirtual 164, 3) := by decide +kernel
theorem dX4_worst_36 : decode cX4_worst 36 = .ok (.ifCond .eq 10, 3) := by decide +kernel
theorem dX4_worst_39 : decode cX4_worst 39 = .ok (.aload_n 0, 1) := by decide +kernel
theorem dX4_worst_40 : decode cX4_worst 40 = .ok (.bipush (-6), 2) := by decide +kernel
theorem dX4_worst_42 : decode cX4_worst 42 = .ok (.invokevirtual 82, 3) := by decide +kernel
theorem dX4_worst_45 : decode cX4_worst 45 = .ok (.ireturn, 1) := by decide +kernel
theorem dX4_worst_46 : decode cX4_worst 46 = .ok (.aload_n 0, 1) := by decide +kernel
theorem dX4_worst_47 : decode cX4_worst 47 = .ok (.iload_n 1, 1) := by decide +kernel
theorem dX4_worst_48 : decode cX4_worst 48 = .ok (.iload_n 2, 1) := by decide +kernel
theorem dX4_worst_49 : decode cX4_worst 49 = .ok (.aload_n 0, 1) := by decide +kernel
theorem dX4_worst_50 : decode cX4_worst 50 = .ok (.getfield 10, 3) := by decide +kernel
theorem dX4_worst_53 : decode cX4_worst 53 = .ok (.ldc2_w 63, 3) := by decide +kernel
theorem dX4_worst_56 : decode cX4_worst 56 = .ok (.invokevirtual 167, 3) := by decide +kernel
theorem dX4_worst_59 : decode cX4_worst 59 = .ok (.invokevirtual 234, 3) := by decide +kernel
theorem dX4_worst_62 : decode cX4_worst 62 = .ok (.ireturn, 1) := by decide +kernel
theorem dX4_worstOf_0 : decode cX4_worstOf 0 = .ok (.aload_n 0, 1) := by decide +kernel
theorem dX4_worstOf_1 : decode cX4_worstOf 1 = .ok (.getfield 10, 3) := by decide +kernel
theorem dX4_worstOf_4 : decode cX4_worstOf 4 = .ok (.iload_n 1, 1) := by decide +kernel
theorem dX4_worstOf_5 : decode cX4_worstOf 5 = .ok (.iload_n 2, 1) := by decide +kernel
theorem dX4_worstOf_6 : decode cX4_worstOf 6 = .ok (.iconst 1, 1) := by decide +kernel
theorem dX4_worstOf_7 : decode cX4_worstOf 7 = .ok (.lload_n 3, 1) := by decide +kernel
theorem dX4_worstOf_8 : decode cX4_worstOf 8 = .ok (.invokevirtual 171, 3) := by decide +kernel
theorem dX4_worstOf_11 : decode cX4_worstOf 11 = .ok (.invokestatic 178, 3) := by decide +kernel
theorem dX4_worstOf_14 : decode cX4_worstOf 14 = .ok (.istore 5, 2) := by decide +kernel
theorem dX4_worstOf_16 : decode cX4_worstOf 16 = .ok (.aload_n 0, 1) := by decide +kernel
theorem dX4_worstOf_17 : decode cX4_worstOf 17 = .ok (.getfield 10, 3) := by decide +kernel
theorem dX4_worstOf_20 : decode cX4_worstOf 20 = .ok (.iload_n 1, 1) := by decide +kernel
theorem dX4_worstOf_21 : decode cX4_worstOf 21 = .ok (.iload_n 2, 1) := by decide +kernel
theorem dX4_worstOf_22 : decode cX4_worstOf 22 = .ok (.iconst 0, 1) := by decide +kernel
theorem dX4_worstOf_23 : decode cX4_worstOf 23 = .ok (.lload_n 3, 1) := by decide +kernel
theorem dX4_worstOf_24 : decode cX4_worstOf 24 = .ok (.invokevirtual 171, 3) := by decide +kernel
theorem dX4_worstOf_27 : decode cX4_worstOf 27 = .ok (.invokestatic 178, 3) := by decide +kernel
theorem dX4_worstOf_30 : decode cX4_worstOf 30 = .ok (.istore 6, 2) := by decide +kernel
theorem dX4_worstOf_32 : decode cX4_worstOf 32 = .ok (.iload 5, 2) := by decide +kernel
theorem dX4_worstOf_34 : decode cX4_worstOf 34 = .ok (.iload 6, 2) := by decide +kernel
theorem dX4_worstOf_36 : decode cX4_worstOf 36 = .ok (.invokestatic 238, 3) := by decide +kernel
theorem dX4_worstOf_39 : decode cX4_worstOf 39 = .ok (.ireturn, 1) := by decide +kernel
theorem dX4_next_0 : decode cX4_next 0 = .ok (.aload_n 0, 1) := by decide +kernel
theorem dX4_next_1 : decode cX4_next 1 = .ok (.getfield 10, 3) := by decide +kernel
theorem dX4_next_4 : decode cX4_next 4 = .ok (.ldc2_w 63, 3) := by decide +kernel
theorem dX4_next_7 : decode cX4_next 7 = .ok (.invokevirtual 167, 3) := by decide +kernel
theorem dX4_next_10 : decode cX4_next 10 = .ok (.lstore_n 1, 1) := by decide +kernel
theorem dX4_next_11 : decode cX4_next 11 = .ok (.iconst (-1), 1) := by decide +kernel
theorem dX4_next_12 : decode cX4_next 12 = .ok (.istore_n 3, 1) := by decide +kernel
theorem dX4_next_13 : decode cX4_next 13 = .ok (.iconst 0, 1) := by decide +kernel
theorem dX4_next_14 : decode cX4_next 14 = .ok (.istore 4, 2) := by decide +kernel
theorem dX4_next_16 : decode cX4_next 16 = .ok (.iconst 0, 1) := by decide +kernel
theorem dX4_next_17 : decode cX4_next 17 = .ok (.istore 5, 2) := by decide +kernel
theorem dX4_next_19 : decode cX4_next 19 = .ok (.iload 5, 2) := by decide +kernel
theorem dX4_next_21 : decode cX4_next 21 = .ok (.aload_n 0, 1) := by decide +kernel
theorem dX4_next_22 : decode cX4_next 22 = .ok (.getfield 10, 3) := by decide +kernel
theorem dX4_next_25 : decode cX4_next 25 = .ok (.getfield 140, 3) := by decide +kernel
theorem dX4_next_28 : decode cX4_next 28 = .ok (.if_icmp .ge 78, 3) := by decide +kernel
theorem dX4_next_31 : decode cX4_next 31 = .ok (.iconst 0, 1) := by decide +kernel
theorem dX4_next_32 : decode cX4_next 32 = .ok (.istore 6, 2) := by decide +kernel
theorem dX4_next_34 : decode cX4_next 34 = .ok (.iload 6, 2) := by decide +kernel
theorem dX4_next_36 : decode cX4_next 36 = .ok (.aload_n 0, 1) := by decide +kernel
theorem dX4_next_37 : decode cX4_next 37 = .ok (.getfield 10, 3) := by decide +kernel
theorem dX4_next_40 : decode cX4_next 40 = .ok (.getfield 133, 3) := by decide +kernel
theorem dX4_next_43 : decode cX4_next 43 = .ok (.if_icmp .ge 57, 3) := by decide +kernel
theorem dX4_next_46 : decode cX4_next 46 = .ok (.aload_n 0, 1) := by decide +kernel
theorem dX4_next_47 : decode cX4_next 47 = .ok (.getfield 10, 3) := by decide +kernel
theorem dX4_next_50 : decode cX4_next 50 = .ok (.iload 5, 2) := by decide +kernel
theorem dX4_next_52 : decode cX4_next 52 = .ok (.invokevirtual 164, 3) := by decide +kernel
theorem dX4_next_55 : decode cX4_next 55 = .ok (.ifCond .ne 45, 3) := by decide +kernel
theorem dX4_next_58 : decode cX4_next 58 = .ok (.aload_n 0, 1) := by decide +kernel
theorem dX4_next_59 : decode cX4_next 59 = .ok (.iload 5, 2) := by decide +kernel
theorem dX4_next_61 : decode cX4_next 61 = .ok (.iload 6, 2) := by decide +kernel
theorem dX4_next_63 : decode cX4_next 63 = .ok (.lload_n 1, 1) := by decide +kernel
theorem dX4_next_64 : decode cX4_next 64 = .ok (.invokevirtual 234, 3) := by decide +kernel
theorem dX4_next_67 : decode cX4_next 67 = .ok (.istore 7, 2) := by decide +kernel
theorem dX4_next_69 : decode cX4_next 69 = .ok (.iload_n 3, 1) := by decide +kernel
theorem dX4_next_70 : decode cX4_next 70 = .ok (.iconst (-1), 1) := by decide +kernel
theorem dX4_next_71 : decode cX4_next 71 = .ok (.if_icmp .eq 10, 3) := by decide +kernel
theorem dX4_next_74 : decode cX4_next 74 = .ok (.iload 7, 2) := by decide +kernel
theorem dX4_next_76 : decode cX4_next 76 = .ok (.iload 4, 2) := by decide +kernel
theorem dX4_next_78 : decode cX4_next 78 = .ok (.if_icmp .ge 16, 3) := by decide +kernel
theorem dX4_next_81 : decode cX4_next 81 = .ok (.bipush 10, 2) := by decide +kernel
theorem dX4_next_83 : decode cX4_next 83 = .ok (.iload 5, 2) := by decide +kernel
theorem dX4_next_85 : decode cX4_next 85 = .ok (.imul, 1) := by decide +kernel
theorem dX4_next_86 : decode cX4_next 86 = .ok (.iload 6, 2) := by decide +kernel
theorem dX4_next_88 : decode cX4_next 88 = .ok (.iadd, 1) := by decide +kernel
theorem dX4_next_89 : decode cX4_next 89 = .ok (.istore_n 3, 1) := by decide +kernel
theorem dX4_next_90 : decode cX4_next 90 = .ok (.iload 7, 2) := by decide +kernel
theorem dX4_next_92 : decode cX4_next 92 = .ok (.istore 4, 2) := by decide +kernel
theorem dX4_next_94 : decode cX4_next 94 = .ok (.iinc 6 1, 3) := by decide +kernel
theorem dX4_next_97 : decode cX4_next 97 = .ok (.goto (-63), 3) := by decide +kernel
theorem dX4_next_100 : decode cX4_next 100 = .ok (.iinc 5 1, 3) := by decide +kernel
theorem dX4_next_103 : decode cX4_next 103 = .ok (.goto (-84), 3) := by decide +kernel
theorem dX4_next_106 : decode cX4_next 106 = .ok (.iload_n 3, 1) := by decide +kernel
theorem dX4_next_107 : decode cX4_next 107 = .ok (.iconst (-1), 1) := by decide +kernel
theorem dX4_next_108 : decode cX4_next 108 = .ok (.if_icmp .ne 12, 3) := by decide +kernel
theorem dX4_next_111 : decode cX4_next 111 = .ok (.aload_n 0, 1) := by decide +kernel
theorem dX4_next_112 : decode cX4_next 112 = .ok (.bipush (-5), 2) := by decide +kernel
theorem dX4_next_114 : decode cX4_next 114 = .ok (.invokevirtual 82, 3) := by decide +kernel
theorem dX4_next_117 : decode cX4_next 117 = .ok (.goto 4, 3) := by decide +kernel
theorem dX4_next_120 : decode cX4_next 120 = .ok (.iload_n 3, 1) := by decide +kernel
theorem dX4_next_121 : decode cX4_next 121 = .ok (.ireturn, 1) := by decide +kernel
theorem dX4_knows_0 : decode cX4_knows 0 = .ok (.aload_n 0, 1) := by decide +kernel
theorem dX4_knows_1 : decode cX4_knows 1 = .ok (.getfield 10, 3) := by decide +kernel
theorem dX4_knows_4 : decode cX4_knows 4 = .ok (.iload_n 1, 1) := by decide +kernel
theorem dX4_knows_5 : decode cX4_knows 5 = .ok (.invokevirtual 158, 3) := by decide +kernel
theorem dX4_knows_8 : decode cX4_knows 8 = .ok (.ifCond .ne 9, 3) := by decide +kernel
theorem dX4_knows_11 : decode cX4_knows 11 = .ok (.aload_n 0, 1) := by decide +kernel
theorem dX4_knows_12 : decode cX4_knows 12 = .ok (.iconst (-1), 1) := by decide +kernel
theorem dX4_knows_13 : decode cX4_knows 13 = .ok (.invokevirtual 82, 3) := by decide +kernel
theorem dX4_knows_16 : decode cX4_knows 16 = .ok (.ireturn, 1) := by decide +kernel
theorem dX4_knows_17 : decode cX4_knows 17 = .ok (.iload_n 2, 1) := by decide +kernel
theorem dX4_knows_18 : decode cX4_knows 18 = .ok (.iconst 0, 1) := by decide +kernel
theorem dX4_knows_19 : decode cX4_knows 19 = .ok (.iconst 2, 1) := by decide +kernel
theorem dX4_knows_20 : decode cX4_knows 20 = .ok (.invokestatic 85, 3) := by decide +kernel
theorem dX4_knows_23 : decode cX4_knows 23 = .ok (.ifCond .ne 10, 3) := by decide +kernel
theorem dX4_knows_26 : decode cX4_knows 26 = .ok (.aload_n 0, 1) := by decide +kernel
theorem dX4_knows_27 : decode cX4_knows 27 = .ok (.bipush (-6), 2) := by decide +kernel
theorem dX4_knows_29 : decode cX4_knows 29 = .ok (.invokevirtual 82, 3) := by decide +kernel
theorem dX4_knows_32 : decode cX4_knows 32 = .ok (.ireturn, 1) := by decide +kernel
theorem dX4_knows_33 : decode cX4_knows 33 = .ok (.aload_n 0, 1) := by decide +kernel
theorem dX4_knows_34 : decode cX4_knows 34 = .ok (.iload_n 2, 1) := by decide +kernel
theorem dX4_knows_35 : decode cX4_knows 35 = .ok (.iload_n 1, 1) := by decide +kernel
theorem dX4_knows_36 : decode cX4_knows 36 = .ok (.aload_n 0, 1) := by decide +kernel
theorem dX4_knows_37 : decode cX4_knows 37 = .ok (.getfield 10, 3) := by decide +kernel
theorem dX4_knows_40 : decode cX4_knows 40 = .ok (.ldc2_w 63, 3) := by decide +kernel
theorem dX4_knows_43 : decode cX4_knows 43 = .ok (.invokevirtual 167, 3) := by decide +kernel
theorem dX4_knows_46 : decode cX4_knows 46 = .ok (.invokevirtual 243, 3) := by decide +kernel
theorem dX4_knows_49 : decode cX4_knows 49 = .ok (.ifCond .eq 7, 3) := by decide +kernel
theorem dX4_knows_52 : decode cX4_knows 52 = .ok (.iconst 1, 1) := by decide +kernel
theorem dX4_knows_53 : decode cX4_knows 53 = .ok (.goto 4, 3) := by decide +kernel
theorem dX4_knows_56 : decode cX4_knows 56 = .ok (.iconst 0, 1) := by decide +kernel
theorem dX4_knows_57 : decode cX4_knows 57 = .ok (.ireturn, 1) := by decide +kernel
theorem dX4_tree_0 : decode cX4_tree 0 = .ok (.aload_n 0, 1) := by decide +kernel
theorem dX4_tree_1 : decode cX4_tree 1 = .ok (.getfield 10, 3) := by decide +kernel
theorem dX4_tree_4 : decode cX4_tree 4 = .ok (.iload_n 1, 1) := by decide +kernel
theorem dX4_tree_5 : decode cX4_tree 5 = .ok (.invokevirtual 158, 3) := by decide +kernel
theorem dX4_tree_8 : decode cX4_tree 8 = .ok (.ifCond .ne 11, 3) := by decide +kernel
theorem dX4_tree_11 : decode cX4_tree 11 = .ok (.aload_n 0, 1) := by decide +kernel
theorem dX4_tree_12 : decode cX4_tree 12 = .ok (.iconst (-1), 1) := by decide +kernel
theorem dX4_tree_13 : decode cX4_tree 13 = .ok (.bipush (-11), 2) := by decide +kernel
theorem dX4_tree_15 : decode cX4_tree 15 = .ok (.invokevirtual 55, 3) := by decide +kernel
theorem dX4_tree_18 : decode cX4_tree 18 = .ok (.ireturn, 1) := by decide +kernel
theorem dX4_tree_19 : decode cX4_tree 19 = .ok (.aload_n 0, 1) := by decide +kernel
theorem dX4_tree_20 : decode cX4_tree 20 = .ok (.getfield 10, 3) := by decide +kernel
theorem dX4_tree_23 : decode cX4_tree 23 = .ok (.ldc2_w 63, 3) := by decide +kernel
theorem dX4_tree_26 : decode cX4_tree 26 = .ok (.invokevirtual 167, 3) := by decide +kernel
theorem dX4_tree_29 : decode cX4_tree 29 = .ok (.lstore_n 2, 1) := by decide +kernel
theorem dX4_tree_30 : decode cX4_tree 30 = .ok (.iconst 0, 1) := by decide +kernel
theorem dX4_tree_31 : decode cX4_tree 31 = .ok (.istore 4, 2) := by decide +kernel
theorem dX4_tree_33 : decode cX4_tree 33 = .ok (.iload 4, 2) := by decide +kernel
theorem dX4_tree_35 : decode cX4_tree 35 = .ok (.iconst 2, 1) := by decide +kernel
theorem dX4_tree_36 : decode cX4_tree 36 = .ok (.if_icmp .gt 23, 3) := by decide +kernel
theorem dX4_tree_39 : decode cX4_tree 39 = .ok (.aload_n 0, 1) := by decide +kernel
theorem dX4_tree_40 : decode cX4_tree 40 = .ok (.iload 4, 2) := by decide +kernel
theorem dX4_tree_42 : decode cX4_tree 42 = .ok (.iload_n 1, 1) := by decide +kernel
theorem dX4_tree_43 : decode cX4_tree 43 = .ok (.lload_n 2, 1) := by decide +kernel
theorem dX4_tree_44 : decode cX4_tree 44 = .ok (.invokevirtual 243, 3) := by decide +kernel
theorem dX4_tree_47 : decode cX4_tree 47 = .ok (.ifCond .eq 6, 3) := by decide +kernel
theorem dX4_tree_50 : decode cX4_tree 50 = .ok (.iload 4, 2) := by decide +kernel
theorem dX4_tree_52 : decode cX4_tree 52 = .ok (.ireturn, 1) := by decide +kernel
theorem dX4_tree_53 : decode cX4_tree 53 = .ok (.iinc 4 1, 3) := by decide +kernel
theorem dX4_tree_56 : decode cX4_tree 56 = .ok (.goto (-23), 3) := by decide +kernel
theorem dX4_tree_59 : decode cX4_tree 59 = .ok (.iconst (-1), 1) := by decide +kernel
theorem dX4_tree_60 : decode cX4_tree 60 = .ok (.ireturn, 1) := by decide +kernel
theorem dX4_isKnownIn_0 : decode cX4_isKnownIn 0 = .ok (.lload_n 3, 1) := by decide +kernel
theorem dX4_isKnownIn_1 : decode cX4_isKnownIn 1 = .ok (.iload_n 2, 1) := by decide +kernel
theorem dX4_isKnownIn_2 : decode cX4_isKnownIn 2 = .ok (.invokestatic 227, 3) := by decide +kernel
theorem dX4_isKnownIn_5 : decode cX4_isKnownIn 5 = .ok (.iconst (-1), 1) := by decide +kernel
theorem dX4_isKnownIn_6 : decode cX4_isKnownIn 6 = .ok (.if_icmp .eq 5, 3) := by decide +kernel
theorem dX4_isKnownIn_9 : decode cX4_isKnownIn 9 = .ok (.iconst 1, 1) := by decide +kernel
theorem dX4_isKnownIn_10 : decode cX4_isKnownIn 10 = .ok (.ireturn, 1) := by decide +kernel
theorem dX4_isKnownIn_11 : decode cX4_isKnownIn 11 = .ok (.iload_n 1, 1) := by decide +kernel
theorem dX4_isKnownIn_12 : decode cX4_isKnownIn 12 = .ok (.ifCond .le 8, 3) := by decide +kernel
theorem dX4_isKnownIn_15 : decode cX4_isKnownIn 15 = .ok (.iload_n 1, 1) := by decide +kernel
theorem dX4_isKnownIn_16 : decode cX4_isKnownIn 16 = .ok (.iconst 2, 1) := by decide +kernel
theorem dX4_isKnownIn_17 : decode cX4_isKnownIn 17 = .ok (.if_icmp .le 5, 3) := by decide +kernel
theorem dX4_isKnownIn_20 : decode cX4_isKnownIn 20 = .ok (.iconst 0, 1) := by decide +kernel
theorem dX4_isKnownIn_21 : decode cX4_isKnownIn 21 = .ok (.ireturn, 1) := by decide +kernel
theorem dX4_isKnownIn_22 : decode cX4_isKnownIn 22 = .ok (.iconst 0, 1) := by decide +kernel
theorem dX4_isKnownIn_23 : decode cX4_isKnownIn 23 = .ok (.istore 5, 2) := by decide +kernel
theorem dX4_isKnownIn_25 : decode cX4_isKnownIn 25 = .ok (.iload 5, 2) := by decide +kernel
theorem dX4_isKnownIn_27 : decode cX4_isKnownIn 27 = .ok (.aload_n 0, 1) := by decide +kernel
theorem dX4_isKnownIn_28 : decode cX4_isKnownIn 28 = .ok (.getfield 10, 3) := by decide +kernel
theorem dX4_isKnownIn_31 : decode cX4_isKnownIn 31 = .ok (.getfield 140, 3) := by decide +kernel
theorem dX4_isKnownIn_34 : decode cX4_isKnownIn 34 = .ok (.if_icmp .ge 74, 3) := by decide +kernel
theorem dX4_isKnownIn_37 : decode cX4_isKnownIn 37 = .ok (.iconst 0, 1) := by decide +kernel
theorem dX4_isKnownIn_38 : decode cX4_isKnownIn 38 = .ok (.istore 6, 2) := by decide +kernel
theorem dX4_isKnownIn_40 : decode cX4_isKnownIn 40 = .ok (.iload 6, 2) := by decide +kernel
theorem dX4_isKnownIn_42 : decode cX4_isKnownIn 42 = .ok (.aload_n 0, 1) := by decide +kernel
theorem dX4_isKnownIn_43 : decode cX4_isKnownIn 43 = .ok (.getfield 10, 3) := by decide +kernel
theorem dX4_isKnownIn_46 : decode cX4_isKnownIn 46 = .ok (.getfield 133, 3) := by decide +kernel
theorem dX4_isKnownIn_49 : decode cX4_isKnownIn 49 = .ok (.if_icmp .ge 53, 3) := by decide +kernel
theorem dX4_isKnownIn_52 : decode cX4_isKnownIn 52 = .ok (.aload_n 0, 1) := by decide +kernel
theorem dX4_isKnownIn_53 : decode cX4_isKnownIn 53 = .ok (.getfield 10, 3) := by decide +kernel
theorem dX4_isKnownIn_56 : decode cX4_isKnownIn 56 = .ok (.iload 5, 2) := by decide +kernel
theorem dX4_isKnownIn_58 : decode cX4_isKnownIn 58 = .ok (.invokevirtual 164, 3) := by decide +kernel
theorem dX4_isKnownIn_61 : decode cX4_isKnownIn 61 = .ok (.ifCond .ne 41, 3) := by decide +kernel
theorem dX4_isKnownIn_64 : decode cX4_isKnownIn 64 = .ok (.aload_n 0, 1) := by decide +kernel
theorem dX4_isKnownIn_65 : decode cX4_isKnownIn 65 = .ok (.iload_n 1, 1) := by decide +kernel
theorem dX4_isKnownIn_66 : decode cX4_isKnownIn 66 = .ok (.iload_n 2, 1) := by decide +kernel
theorem dX4_isKnownIn_67 : decode cX4_isKnownIn 67 = .ok (.lload_n 3, 1) := by decide +kernel
theorem dX4_isKnownIn_68 : decode cX4_isKnownIn 68 = .ok (.iload 5, 2) := by decide +kernel
theorem dX4_isKnownIn_70 : decode cX4_isKnownIn 70 = .ok (.iload 6, 2) := by decide +kernel
theorem dX4_isKnownIn_72 : decode cX4_isKnownIn 72 = .ok (.iconst 1, 1) := by decide +kernel
theorem dX4_isKnownIn_73 : decode cX4_isKnownIn 73 = .ok (.invokevirtual 247, 3) := by decide +kernel
theorem dX4_isKnownIn_76 : decode cX4_isKnownIn 76 = .ok (.ifCond .eq 20, 3) := by decide +kernel
theorem dX4_isKnownIn_79 : decode cX4_isKnownIn 79 = .ok (.aload_n 0, 1) := by decide +kernel
theorem dX4_isKnownIn_80 : decode cX4_isKnownIn 80 = .ok (.iload_n 1, 1) := by decide +kernel
theorem dX4_isKnownIn_81 : decode cX4_isKnownIn 81 = .ok (.iload_n 2, 1) := by decide +kernel
theorem dX4_isKnownIn_82 : decode cX4_isKnownIn 82 = .ok (.lload_n 3, 1) := by decide +kernel
theorem dX4_isKnownIn_83 : decode cX4_isKnownIn 83 = .ok (.iload 5, 2) := by decide +kernel
theorem dX4_isKnownIn_85 : decode cX4_isKnownIn 85 = .ok (.iload 6, 2) := by decide +kernel
theorem dX4_isKnownIn_87 : decode cX4_isKnownIn 87 = .ok (.iconst 0, 1) := by decide +kernel
theorem dX4_isKnownIn_88 : decode cX4_isKnownIn 88 = .ok (.invokevirtual 247, 3) := by decide +kernel
theorem dX4_isKnownIn_91 : decode cX4_isKnownIn 91 = .ok (.ifCond .eq 5, 3) := by decide +kernel
theorem dX4_isKnownIn_94 : decode cX4_isKnownIn 94 = .ok (.iconst 1, 1) := by decide +kernel
theorem dX4_isKnownIn_95 : decode cX4_isKnownIn 95 = .ok (.ireturn, 1) := by decide +kernel
theorem dX4_isKnownIn_96 : decode cX4_isKnownIn 96 = .ok (.iinc 6 1, 3) := by decide +kernel
theorem dX4_isKnownIn_99 : decode cX4_isKnownIn 99 = .ok (.goto (-59), 3) := by decide +kernel
theorem dX4_isKnownIn_102 : decode cX4_isKnownIn 102 = .ok (.iinc 5 1, 3) := by decide +kernel
theorem dX4_isKnownIn_105 : decode cX4_isKnownIn 105 = .ok (.goto (-80), 3) := by decide +kernel
theorem dX4_isKnownIn_108 : decode cX4_isKnownIn 108 = .ok (.iconst 0, 1) := by decide +kernel
theorem dX4_isKnownIn_109 : decode cX4_isKnownIn 109 = .ok (.ireturn, 1) := by decide +kernel
theorem dX4_leavesKnown_0 : decode cX4_leavesKnown 0 = .ok (.aload_n 0, 1) := by decide +kernel
theorem dX4_leavesKnown_1 : decode cX4_leavesKnown 1 = .ok (.getfield 10, 3) := by decide +kernel
theorem dX4_leavesKnown_4 : decode cX4_leavesKnown 4 = .ok (.iload 5, 2) := by decide +kernel
theorem dX4_leavesKnown_6 : decode cX4_leavesKnown 6 = .ok (.iload 6, 2) := by decide +kernel
theorem dX4_leavesKnown_8 : decode cX4_leavesKnown 8 = .ok (.iload 7, 2) := by decide +kernel
theorem dX4_leavesKnown_10 : decode cX4_leavesKnown 10 = .ok (.invokevirtual 175, 3) := by decide +kernel
theorem dX4_leavesKnown_13 : decode cX4_leavesKnown 13 = .ok (.lload_n 3, 1) := by decide +kernel
theorem dX4_leavesKnown_14 : decode cX4_leavesKnown 14 = .ok (.aload_n 0, 1) := by decide +kernel
theorem dX4_leavesKnown_15 : decode cX4_leavesKnown 15 = .ok (.getfield 10, 3) := by decide +kernel
theorem dX4_leavesKnown_18 : decode cX4_leavesKnown 18 = .ok (.iload 5, 2) := by decide +kernel
theorem dX4_leavesKnown_20 : decode cX4_leavesKnown 20 = .ok (.ldc2_w 63, 3) := by decide +kernel
theorem dX4_leavesKnown_23 : decode cX4_leavesKnown 23 = .ok (.invokevirtual 216, 3) := by decide +kernel
theorem dX4_leavesKnown_26 : decode cX4_leavesKnown 26 = .ok (.land, 1) := by decide +kernel
theorem dX4_leavesKnown_27 : decode cX4_leavesKnown 27 = .ok (.lstore 8, 2) := by decide +kernel
theorem dX4_leavesKnown_29 : decode cX4_leavesKnown 29 = .ok (.lload 8, 2) := by decide +kernel
theorem dX4_leavesKnown_31 : decode cX4_leavesKnown 31 = .ok (.lconst 0, 1) := by decide +kernel
theorem dX4_leavesKnown_32 : decode cX4_leavesKnown 32 = .ok (.lcmp, 1) := by decide +kernel
theorem dX4_leavesKnown_33 : decode cX4_leavesKnown 33 = .ok (.ifCond .eq 16, 3) := by decide +kernel
theorem dX4_leavesKnown_36 : decode cX4_leavesKnown 36 = .ok (.aload_n 0, 1) := by decide +kernel
theorem dX4_leavesKnown_37 : decode cX4_leavesKnown 37 = .ok (.iload_n 1, 1) := by decide +kernel
theorem dX4_leavesKnown_38 : decode cX4_leavesKnown 38 = .ok (.iconst 1, 1) := by decide +kernel
theorem dX4_leavesKnown_39 : decode cX4_leavesKnown 39 = .ok (.isub, 1) := by decide +kernel
theorem dX4_leavesKnown_40 : decode cX4_leavesKnown 40 = .ok (.iload_n 2, 1) := by decide +kernel
theorem dX4_leavesKnown_41 : decode cX4_leavesKnown 41 = .ok (.lload 8, 2) := by decide +kernel
theorem dX4_leavesKnown_43 : decode cX4_leavesKnown 43 = .ok (.invokevirtual 243, 3) := by decide +kernel
theorem dX4_leavesKnown_46 : decode cX4_leavesKnown 46 = .ok (.ifCond .eq 7, 3) := by decide +kernel
theorem dX4_leavesKnown_49 : decode cX4_leavesKnown 49 = .ok (.iconst 1, 1) := by decide +kernel
theorem dX4_leavesKnown_50 : decode cX4_leavesKnown 50 = .ok (.goto 4, 3) := by decide +kernel
theorem dX4_leavesKnown_53 : decode cX4_leavesKnown 53 = .ok (.iconst 0, 1) := by decide +kernel
theorem dX4_leavesKnown_54 : decode cX4_leavesKnown 54 = .ok (.istore 10, 2) := by decide +kernel
theorem dX4_leavesKnown_56 : decode cX4_leavesKnown 56 = .ok (.aload_n 0, 1) := by decide +kernel
theorem dX4_leavesKnown_57 : decode cX4_leavesKnown 57 = .ok (.getfield 10, 3) := by decide +kernel
theorem dX4_leavesKnown_60 : decode cX4_leavesKnown 60 = .ok (.invokevirtual 184, 3) := by decide +kernel
theorem dX4_leavesKnown_63 : decode cX4_leavesKnown 63 = .ok (.iload 10, 2) := by decide +kernel
theorem dX4_leavesKnown_65 : decode cX4_leavesKnown 65 = .ok (.ireturn, 1) := by decide +kernel
theorem dX4_rows_0 : decode cX4_rows 0 = .ok (.aload_n 0, 1) := by decide +kernel
theorem dX4_rows_1 : decode cX4_rows 1 = .ok (.getfield 10, 3) := by decide +kernel
theorem dX4_rows_4 : decode cX4_rows 4 = .ok (.iload_n 1, 1) := by decide +kernel
theorem dX4_rows_5 : decode cX4_rows 5 = .ok (.invokevirtual 119, 3) := by decide +kernel
theorem dX4_rows_8 : decode cX4_rows 8 = .ok (.ifCond .ne 9, 3) := by decide +kernel
theorem dX4_rows_11 : decode cX4_rows 11 = .ok (.aload_n 0, 1) := by decide +kernel
theorem dX4_rows_12 : decode cX4_rows 12 = .ok (.iconst (-1), 1) := by decide +kernel
theorem dX4_rows_13 : decode cX4_rows 13 = .ok (.invokevirtual 82, 3) := by decide +kernel
theorem dX4_rows_16 : decode cX4_rows 16 = .ok (.ireturn, 1) := by decide +kernel
theorem dX4_rows_17 : decode cX4_rows 17 = .ok (.iload_n 2, 1) := by decide +kernel
theorem dX4_rows_18 : decode cX4_rows 18 = .ok (.iconst 0, 1) := by decide +kernel
theorem dX4_rows_19 : decode cX4_rows 19 = .ok (.aload_n 0, 1) := by decide +kernel
theorem dX4_rows_20 : decode cX4_rows 20 = .ok (.getfield 10, 3) := by decide +kernel
theorem dX4_rows_23 : decode cX4_rows 23 = .ok (.getfield 149, 3) := by decide +kernel
theorem dX4_rows_26 : decode cX4_rows 26 = .ok (.invokestatic 85, 3) := by decide +kernel
theorem dX4_rows_29 : decode cX4_rows 29 = .ok (.ifCond .ne 10, 3) := by decide +kernel
theorem dX4_rows_32 : decode cX4_rows 32 = .ok (.aload_n 0, 1) := by decide +kernel
theorem dX4_rows_33 : decode cX4_rows 33 = .ok (.bipush (-6), 2) := by decide +kernel
theorem dX4_rows_35 : decode cX4_rows 35 = .ok (.invokevirtual 82, 3) := by decide +kernel
theorem dX4_rows_38 : decode cX4_rows 38 = .ok (.ireturn, 1) := by decide +kernel
theorem dX4_rows_39 : decode cX4_rows 39 = .ok (.aload_n 0, 1) := by decide +kernel
theorem dX4_rows_40 : decode cX4_rows 40 = .ok (.getfield 10, 3) := by decide +kernel
theorem dX4_rows_43 : decode cX4_rows 43 = .ok (.iload_n 1, 1) := by decide +kernel
theorem dX4_rows_44 : decode cX4_rows 44 = .ok (.iload_n 2, 1) := by decide +kernel
theorem dX4_rows_45 : decode cX4_rows 45 = .ok (.invokevirtual 251, 3) := by decide +kernel
theorem dX4_rows_48 : decode cX4_rows 48 = .ok (.ireturn, 1) := by decide +kernel
theorem dX4_tells_0 : decode cX4_tells 0 = .ok (.aload_n 0, 1) := by decide +kernel
theorem dX4_tells_1 : decode cX4_tells 1 = .ok (.getfield 10, 3) := by decide +kernel
theorem dX4_tells_4 : decode cX4_tells 4 = .ok (.iload_n 1, 1) := by decide +kernel
theorem dX4_tells_5 : decode cX4_tells 5 = .ok (.invokevirtual 119, 3) := by decide +kernel
theorem dX4_tells_8 : decode cX4_tells 8 = .ok (.ifCond .ne 11, 3) := by decide +kernel
theorem dX4_tells_11 : decode cX4_tells 11 = .ok (.aload_n 0, 1) := by decide +kernel
theorem dX4_tells_12 : decode cX4_tells 12 = .ok (.iconst (-1), 1) := by decide +kernel
theorem dX4_tells_13 : decode cX4_tells 13 = .ok (.bipush (-11), 2) := by decide +kernel
theorem dX4_tells_15 : decode cX4_tells 15 = .ok (.invokevirtual 55, 3) := by decide +kernel
theorem dX4_tells_18 : decode cX4_tells 18 = .ok (.ireturn, 1) := by decide +kernel
theorem dX4_tells_19 : decode cX4_tells 19 = .ok (.iload_n 2, 1) := by decide +kernel
theorem dX4_tells_20 : decode cX4_tells 20 = .ok (.iconst 1, 1) := by decide +kernel
theorem dX4_tells_21 : decode cX4_tells 21 = .ok (.sipush 1024, 3) := by decide +kernel
theorem dX4_tells_24 : decode cX4_tells 24 = .ok (.invokestatic 85, 3) := by decide +kernel
theorem dX4_tells_27 : decode cX4_tells 27 = .ok (.ifCond .ne 12, 3) := by decide +kernel
theorem dX4_tells_30 : decode cX4_tells 30 = .ok (.aload_n 0, 1) := by decide +kernel
