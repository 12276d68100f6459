theorem dX9_faultOf_71 : decode cX9_faultOf 71 = .ok (.istore_n 2, 1) := by decide +kernel
theorem dX9_faultOf_72 : decode cX9_faultOf 72 = .ok (.iload_n 2, 1) := by decide +kernel
theorem dX9_faultOf_73 : decode cX9_faultOf 73 = .ok (.ifCond .ge 8, 3) := by decide +kernel
theorem dX9_faultOf_76 : decode cX9_faultOf 76 = .ok (.aload_n 0, 1) := by decide +kernel
theorem dX9_faultOf_77 : decode cX9_faultOf 77 = .ok (.getfield 115, 3) := by decide +kernel
theorem dX9_faultOf_80 : decode cX9_faultOf 80 = .ok (.ireturn, 1) := by decide +kernel
theorem dX9_faultOf_81 : decode cX9_faultOf 81 = .ok (.aload_n 0, 1) := by decide +kernel
theorem dX9_faultOf_82 : decode cX9_faultOf 82 = .ok (.getfield 7, 3) := by decide +kernel
theorem dX9_faultOf_85 : decode cX9_faultOf 85 = .ok (.sipush 5249, 3) := by decide +kernel
theorem dX9_faultOf_88 : decode cX9_faultOf 88 = .ok (.iload_n 2, 1) := by decide +kernel
theorem dX9_faultOf_89 : decode cX9_faultOf 89 = .ok (.iastore, 1) := by decide +kernel
theorem dX9_faultOf_90 : decode cX9_faultOf 90 = .ok (.aload_n 0, 1) := by decide +kernel
theorem dX9_faultOf_91 : decode cX9_faultOf 91 = .ok (.iload_n 1, 1) := by decide +kernel
theorem dX9_faultOf_92 : decode cX9_faultOf 92 = .ok (.invokevirtual 128, 3) := by decide +kernel
theorem dX9_faultOf_95 : decode cX9_faultOf 95 = .ok (.aload_n 0, 1) := by decide +kernel
theorem dX9_faultOf_96 : decode cX9_faultOf 96 = .ok (.getfield 115, 3) := by decide +kernel
theorem dX9_faultOf_99 : decode cX9_faultOf 99 = .ok (.aload_n 0, 1) := by decide +kernel
theorem dX9_faultOf_100 : decode cX9_faultOf 100 = .ok (.getfield 25, 3) := by decide +kernel
theorem dX9_faultOf_103 : decode cX9_faultOf 103 = .ok (.iload_n 1, 1) := by decide +kernel
theorem dX9_faultOf_104 : decode cX9_faultOf 104 = .ok (.iaload, 1) := by decide +kernel
theorem dX9_faultOf_105 : decode cX9_faultOf 105 = .ok (.if_icmp .lt 14, 3) := by decide +kernel
theorem dX9_faultOf_108 : decode cX9_faultOf 108 = .ok (.aload_n 0, 1) := by decide +kernel
theorem dX9_faultOf_109 : decode cX9_faultOf 109 = .ok (.getfield 7, 3) := by decide +kernel
theorem dX9_faultOf_112 : decode cX9_faultOf 112 = .ok (.sipush 5248, 3) := by decide +kernel
theorem dX9_faultOf_115 : decode cX9_faultOf 115 = .ok (.iaload, 1) := by decide +kernel
theorem dX9_faultOf_116 : decode cX9_faultOf 116 = .ok (.ifCond .ne 24, 3) := by decide +kernel
theorem dX9_faultOf_119 : decode cX9_faultOf 119 = .ok (.aload_n 0, 1) := by decide +kernel
theorem dX9_faultOf_120 : decode cX9_faultOf 120 = .ok (.iload_n 1, 1) := by decide +kernel
theorem dX9_faultOf_121 : decode cX9_faultOf 121 = .ok (.invokevirtual 132, 3) := by decide +kernel
theorem dX9_faultOf_124 : decode cX9_faultOf 124 = .ok (.ifCond .ne 8, 3) := by decide +kernel
theorem dX9_faultOf_127 : decode cX9_faultOf 127 = .ok (.aload_n 0, 1) := by decide +kernel
theorem dX9_faultOf_128 : decode cX9_faultOf 128 = .ok (.getfield 115, 3) := by decide +kernel
theorem dX9_faultOf_131 : decode cX9_faultOf 131 = .ok (.ireturn, 1) := by decide +kernel
theorem dX9_faultOf_132 : decode cX9_faultOf 132 = .ok (.aload_n 0, 1) := by decide +kernel
theorem dX9_faultOf_133 : decode cX9_faultOf 133 = .ok (.iload_n 1, 1) := by decide +kernel
theorem dX9_faultOf_134 : decode cX9_faultOf 134 = .ok (.invokevirtual 128, 3) := by decide +kernel
theorem dX9_faultOf_137 : decode cX9_faultOf 137 = .ok (.goto (-42), 3) := by decide +kernel
theorem dX9_faultOf_140 : decode cX9_faultOf 140 = .ok (.bipush (-9), 2) := by decide +kernel
theorem dX9_faultOf_142 : decode cX9_faultOf 142 = .ok (.ireturn, 1) := by decide +kernel
theorem dX9_fault_0 : decode cX9_fault 0 = .ok (.iload_n 1, 1) := by decide +kernel
theorem dX9_fault_1 : decode cX9_fault 1 = .ok (.invokestatic 112, 3) := by decide +kernel
theorem dX9_fault_4 : decode cX9_fault 4 = .ok (.ifCond .ne 5, 3) := by decide +kernel
theorem dX9_fault_7 : decode cX9_fault 7 = .ok (.iconst (-1), 1) := by decide +kernel
theorem dX9_fault_8 : decode cX9_fault 8 = .ok (.ireturn, 1) := by decide +kernel
theorem dX9_fault_9 : decode cX9_fault 9 = .ok (.aload_n 0, 1) := by decide +kernel
theorem dX9_fault_10 : decode cX9_fault 10 = .ok (.getfield 25, 3) := by decide +kernel
theorem dX9_fault_13 : decode cX9_fault 13 = .ok (.iload_n 1, 1) := by decide +kernel
theorem dX9_fault_14 : decode cX9_fault 14 = .ok (.iaload, 1) := by decide +kernel
theorem dX9_fault_15 : decode cX9_fault 15 = .ok (.ifCond .ge 11, 3) := by decide +kernel
theorem dX9_fault_18 : decode cX9_fault 18 = .ok (.aload_n 0, 1) := by decide +kernel
theorem dX9_fault_19 : decode cX9_fault 19 = .ok (.iconst 1, 1) := by decide +kernel
theorem dX9_fault_20 : decode cX9_fault 20 = .ok (.invokevirtual 93, 3) := by decide +kernel
theorem dX9_fault_23 : decode cX9_fault 23 = .ok (.goto 8, 3) := by decide +kernel
theorem dX9_fault_26 : decode cX9_fault 26 = .ok (.aload_n 0, 1) := by decide +kernel
theorem dX9_fault_27 : decode cX9_fault 27 = .ok (.iload_n 1, 1) := by decide +kernel
theorem dX9_fault_28 : decode cX9_fault 28 = .ok (.invokevirtual 135, 3) := by decide +kernel
theorem dX9_fault_31 : decode cX9_fault 31 = .ok (.ireturn, 1) := by decide +kernel
theorem dX9_tower_0 : decode cX9_tower 0 = .ok (.iload_n 1, 1) := by decide +kernel
theorem dX9_tower_1 : decode cX9_tower 1 = .ok (.invokestatic 112, 3) := by decide +kernel
theorem dX9_tower_4 : decode cX9_tower 4 = .ok (.ifCond .ne 5, 3) := by decide +kernel
theorem dX9_tower_7 : decode cX9_tower 7 = .ok (.iconst (-1), 1) := by decide +kernel
theorem dX9_tower_8 : decode cX9_tower 8 = .ok (.ireturn, 1) := by decide +kernel
theorem dX9_tower_9 : decode cX9_tower 9 = .ok (.aload_n 0, 1) := by decide +kernel
theorem dX9_tower_10 : decode cX9_tower 10 = .ok (.getfield 25, 3) := by decide +kernel
theorem dX9_tower_13 : decode cX9_tower 13 = .ok (.iload_n 1, 1) := by decide +kernel
theorem dX9_tower_14 : decode cX9_tower 14 = .ok (.iaload, 1) := by decide +kernel
theorem dX9_tower_15 : decode cX9_tower 15 = .ok (.ifCond .ge 9, 3) := by decide +kernel
theorem dX9_tower_18 : decode cX9_tower 18 = .ok (.aload_n 0, 1) := by decide +kernel
theorem dX9_tower_19 : decode cX9_tower 19 = .ok (.iconst 1, 1) := by decide +kernel
theorem dX9_tower_20 : decode cX9_tower 20 = .ok (.invokevirtual 93, 3) := by decide +kernel
theorem dX9_tower_23 : decode cX9_tower 23 = .ok (.ireturn, 1) := by decide +kernel
theorem dX9_tower_24 : decode cX9_tower 24 = .ok (.aload_n 0, 1) := by decide +kernel
theorem dX9_tower_25 : decode cX9_tower 25 = .ok (.iload_n 1, 1) := by decide +kernel
theorem dX9_tower_26 : decode cX9_tower 26 = .ok (.invokevirtual 135, 3) := by decide +kernel
theorem dX9_tower_29 : decode cX9_tower 29 = .ok (.bipush (-9), 2) := by decide +kernel
theorem dX9_tower_31 : decode cX9_tower 31 = .ok (.if_icmp .eq 6, 3) := by decide +kernel
theorem dX9_tower_34 : decode cX9_tower 34 = .ok (.bipush (-4), 2) := by decide +kernel
theorem dX9_tower_36 : decode cX9_tower 36 = .ok (.ireturn, 1) := by decide +kernel
theorem dX9_tower_37 : decode cX9_tower 37 = .ok (.aload_n 0, 1) := by decide +kernel
theorem dX9_tower_38 : decode cX9_tower 38 = .ok (.sipush 5248, 3) := by decide +kernel
theorem dX9_tower_41 : decode cX9_tower 41 = .ok (.iconst 0, 1) := by decide +kernel
theorem dX9_tower_42 : decode cX9_tower 42 = .ok (.bipush 32, 2) := by decide +kernel
theorem dX9_tower_44 : decode cX9_tower 44 = .ok (.invokevirtual 138, 3) := by decide +kernel
theorem dX9_tower_47 : decode cX9_tower 47 = .ok (.aload_n 0, 1) := by decide +kernel
theorem dX9_tower_48 : decode cX9_tower 48 = .ok (.iconst 0, 1) := by decide +kernel
theorem dX9_tower_49 : decode cX9_tower 49 = .ok (.putfield 142, 3) := by decide +kernel
theorem dX9_tower_52 : decode cX9_tower 52 = .ok (.iconst 0, 1) := by decide +kernel
theorem dX9_tower_53 : decode cX9_tower 53 = .ok (.istore_n 2, 1) := by decide +kernel
theorem dX9_tower_54 : decode cX9_tower 54 = .ok (.iload_n 2, 1) := by decide +kernel
theorem dX9_tower_55 : decode cX9_tower 55 = .ok (.iconst 3, 1) := by decide +kernel
theorem dX9_tower_56 : decode cX9_tower 56 = .ok (.if_icmp .ge 16, 3) := by decide +kernel
theorem dX9_tower_59 : decode cX9_tower 59 = .ok (.aload_n 0, 1) := by decide +kernel
theorem dX9_tower_60 : decode cX9_tower 60 = .ok (.getfield 13, 3) := by decide +kernel
theorem dX9_tower_63 : decode cX9_tower 63 = .ok (.iload_n 2, 1) := by decide +kernel
theorem dX9_tower_64 : decode cX9_tower 64 = .ok (.iconst (-1), 1) := by decide +kernel
theorem dX9_tower_65 : decode cX9_tower 65 = .ok (.iastore, 1) := by decide +kernel
theorem dX9_tower_66 : decode cX9_tower 66 = .ok (.iinc 2 1, 3) := by decide +kernel
theorem dX9_tower_69 : decode cX9_tower 69 = .ok (.goto (-15), 3) := by decide +kernel
theorem dX9_tower_72 : decode cX9_tower 72 = .ok (.aload_n 0, 1) := by decide +kernel
theorem dX9_tower_73 : decode cX9_tower 73 = .ok (.getfield 7, 3) := by decide +kernel
theorem dX9_tower_76 : decode cX9_tower 76 = .ok (.iconst 0, 1) := by decide +kernel
theorem dX9_tower_77 : decode cX9_tower 77 = .ok (.iaload, 1) := by decide +kernel
theorem dX9_tower_78 : decode cX9_tower 78 = .ok (.ireturn, 1) := by decide +kernel
theorem dX9_isBell_0 : decode cX9_isBell 0 = .ok (.iload_n 1, 1) := by decide +kernel
theorem dX9_isBell_1 : decode cX9_isBell 1 = .ok (.i2l, 1) := by decide +kernel
theorem dX9_isBell_2 : decode cX9_isBell 2 = .ok (.lconst 0, 1) := by decide +kernel
theorem dX9_isBell_3 : decode cX9_isBell 3 = .ok (.aload_n 0, 1) := by decide +kernel
theorem dX9_isBell_4 : decode cX9_isBell 4 = .ok (.getfield 7, 3) := by decide +kernel
theorem dX9_isBell_7 : decode cX9_isBell 7 = .ok (.iconst 0, 1) := by decide +kernel
theorem dX9_isBell_8 : decode cX9_isBell 8 = .ok (.iaload, 1) := by decide +kernel
theorem dX9_isBell_9 : decode cX9_isBell 9 = .ok (.iconst 1, 1) := by decide +kernel
theorem dX9_isBell_10 : decode cX9_isBell 10 = .ok (.isub, 1) := by decide +kernel
theorem dX9_isBell_11 : decode cX9_isBell 11 = .ok (.i2l, 1) := by decide +kernel
theorem dX9_isBell_12 : decode cX9_isBell 12 = .ok (.invokestatic 83, 3) := by decide +kernel
theorem dX9_isBell_15 : decode cX9_isBell 15 = .ok (.ireturn, 1) := by decide +kernel
theorem dX9_isOver_0 : decode cX9_isOver 0 = .ok (.aload_n 0, 1) := by decide +kernel
theorem dX9_isOver_1 : decode cX9_isOver 1 = .ok (.getfield 7, 3) := by decide +kernel
theorem dX9_isOver_4 : decode cX9_isOver 4 = .ok (.bipush 20, 2) := by decide +kernel
theorem dX9_isOver_6 : decode cX9_isOver 6 = .ok (.iload_n 1, 1) := by decide +kernel
theorem dX9_isOver_7 : decode cX9_isOver 7 = .ok (.iadd, 1) := by decide +kernel
theorem dX9_isOver_8 : decode cX9_isOver 8 = .ok (.iaload, 1) := by decide +kernel
theorem dX9_isOver_9 : decode cX9_isOver 9 = .ok (.iconst 1, 1) := by decide +kernel
theorem dX9_isOver_10 : decode cX9_isOver 10 = .ok (.if_icmp .ne 7, 3) := by decide +kernel
theorem dX9_isOver_13 : decode cX9_isOver 13 = .ok (.iconst 1, 1) := by decide +kernel
theorem dX9_isOver_14 : decode cX9_isOver 14 = .ok (.goto 4, 3) := by decide +kernel
theorem dX9_isOver_17 : decode cX9_isOver 17 = .ok (.iconst 0, 1) := by decide +kernel
theorem dX9_isOver_18 : decode cX9_isOver 18 = .ok (.ireturn, 1) := by decide +kernel
theorem dX9_bell_0 : decode cX9_bell 0 = .ok (.aload_n 0, 1) := by decide +kernel
theorem dX9_bell_1 : decode cX9_bell 1 = .ok (.iload_n 1, 1) := by decide +kernel
theorem dX9_bell_2 : decode cX9_bell 2 = .ok (.invokevirtual 145, 3) := by decide +kernel
theorem dX9_bell_5 : decode cX9_bell 5 = .ok (.ifCond .eq 15, 3) := by decide +kernel
theorem dX9_bell_8 : decode cX9_bell 8 = .ok (.iload_n 2, 1) := by decide +kernel
theorem dX9_bell_9 : decode cX9_bell 9 = .ok (.i2l, 1) := by decide +kernel
theorem dX9_bell_10 : decode cX9_bell 10 = .ok (.lconst 0, 1) := by decide +kernel
theorem dX9_bell_11 : decode cX9_bell 11 = .ok (.ldc2_w 81, 3) := by decide +kernel
theorem dX9_bell_14 : decode cX9_bell 14 = .ok (.invokestatic 83, 3) := by decide +kernel
theorem dX9_bell_17 : decode cX9_bell 17 = .ok (.ifCond .ne 5, 3) := by decide +kernel
theorem dX9_bell_20 : decode cX9_bell 20 = .ok (.iconst (-1), 1) := by decide +kernel
theorem dX9_bell_21 : decode cX9_bell 21 = .ok (.ireturn, 1) := by decide +kernel
theorem dX9_bell_22 : decode cX9_bell 22 = .ok (.aload_n 0, 1) := by decide +kernel
theorem dX9_bell_23 : decode cX9_bell 23 = .ok (.aload_n 0, 1) := by decide +kernel
theorem dX9_bell_24 : decode cX9_bell 24 = .ok (.iload_n 1, 1) := by decide +kernel
theorem dX9_bell_25 : decode cX9_bell 25 = .ok (.iload_n 2, 1) := by decide +kernel
theorem dX9_bell_26 : decode cX9_bell 26 = .ok (.invokevirtual 148, 3) := by decide +kernel
theorem dX9_bell_29 : decode cX9_bell 29 = .ok (.iconst 1, 1) := by decide +kernel
theorem dX9_bell_30 : decode cX9_bell 30 = .ok (.invokevirtual 105, 3) := by decide +kernel
theorem dX9_bell_33 : decode cX9_bell 33 = .ok (.ireturn, 1) := by decide +kernel
theorem dX9_bellTells_0 : decode cX9_bellTells 0 = .ok (.iload_n 2, 1) := by decide +kernel
theorem dX9_bellTells_1 : decode cX9_bellTells 1 = .ok (.tableswitch 94 0 4 #[35, 44, 54, 64, 74], 35) := by decide +kernel
theorem dX9_bellTells_36 : decode cX9_bellTells 36 = .ok (.aload_n 0, 1) := by decide +kernel
theorem dX9_bellTells_37 : decode cX9_bellTells 37 = .ok (.getfield 7, 3) := by decide +kernel
theorem dX9_bellTells_40 : decode cX9_bellTells 40 = .ok (.iconst 2, 1) := by decide +kernel
theorem dX9_bellTells_41 : decode cX9_bellTells 41 = .ok (.iload_n 1, 1) := by decide +kernel
theorem dX9_bellTells_42 : decode cX9_bellTells 42 = .ok (.iadd, 1) := by decide +kernel
theorem dX9_bellTells_43 : decode cX9_bellTells 43 = .ok (.iaload, 1) := by decide +kernel
theorem dX9_bellTells_44 : decode cX9_bellTells 44 = .ok (.ireturn, 1) := by decide +kernel
theorem dX9_bellTells_45 : decode cX9_bellTells 45 = .ok (.aload_n 0, 1) := by decide +kernel
theorem dX9_bellTells_46 : decode cX9_bellTells 46 = .ok (.getfield 7, 3) := by decide +kernel
theorem dX9_bellTells_49 : decode cX9_bellTells 49 = .ok (.bipush 8, 2) := by decide +kernel
theorem dX9_bellTells_51 : decode cX9_bellTells 51 = .ok (.iload_n 1, 1) := by decide +kernel
theorem dX9_bellTells_52 : decode cX9_bellTells 52 = .ok (.iadd, 1) := by decide +kernel
theorem dX9_bellTells_53 : decode cX9_bellTells 53 = .ok (.iaload, 1) := by decide +kernel
theorem dX9_bellTells_54 : decode cX9_bellTells 54 = .ok (.ireturn, 1) := by decide +kernel
theorem dX9_bellTells_55 : decode cX9_bellTells 55 = .ok (.aload_n 0, 1) := by decide +kernel
theorem dX9_bellTells_56 : decode cX9_bellTells 56 = .ok (.getfield 7, 3) := by decide +kernel
theorem dX9_bellTells_59 : decode cX9_bellTells 59 = .ok (.bipush 14, 2) := by decide +kernel
theorem dX9_bellTells_61 : decode cX9_bellTells 61 = .ok (.iload_n 1, 1) := by decide +kernel
theorem dX9_bellTells_62 : decode cX9_bellTells 62 = .ok (.iadd, 1) := by decide +kernel
theorem dX9_bellTells_63 : decode cX9_bellTells 63 = .ok (.iaload, 1) := by decide +kernel
theorem dX9_bellTells_64 : decode cX9_bellTells 64 = .ok (.ireturn, 1) := by decide +kernel
theorem dX9_bellTells_65 : decode cX9_bellTells 65 = .ok (.aload_n 0, 1) := by decide +kernel
theorem dX9_bellTells_66 : decode cX9_bellTells 66 = .ok (.getfield 7, 3) := by decide +kernel
theorem dX9_bellTells_69 : decode cX9_bellTells 69 = .ok (.bipush 20, 2) := by decide +kernel
theorem dX9_bellTells_71 : decode cX9_bellTells 71 = .ok (.iload_n 1, 1) := by decide +kernel
theorem dX9_bellTells_72 : decode cX9_bellTells 72 = .ok (.iadd, 1) := by decide +kernel
theorem dX9_bellTells_73 : decode cX9_bellTells 73 = .ok (.iaload, 1) := by decide +kernel
theorem dX9_bellTells_74 : decode cX9_bellTells 74 = .ok (.ireturn, 1) := by decide +kernel
theorem dX9_bellTells_75 : decode cX9_bellTells 75 = .ok (.aload_n 0, 1) := by decide +kernel
theorem dX9_bellTells_76 : decode cX9_bellTells 76 = .ok (.getfield 7, 3) := by decide +kernel
theorem dX9_bellTells_79 : decode cX9_bellTells 79 = .ok (.bipush 14, 2) := by decide +kernel
theorem dX9_bellTells_81 : decode cX9_bellTells 81 = .ok (.iload_n 1, 1) := by decide +kernel
theorem dX9_bellTells_82 : decode cX9_bellTells 82 = .ok (.iadd, 1) := by decide +kernel
theorem dX9_bellTells_83 : decode cX9_bellTells 83 = .ok (.iaload, 1) := by decide +kernel
theorem dX9_bellTells_84 : decode cX9_bellTells 84 = .ok (.bipush 20, 2) := by decide +kernel
theorem dX9_bellTells_86 : decode cX9_bellTells 86 = .ok (.if_icmp .ne 7, 3) := by decide +kernel
theorem dX9_bellTells_89 : decode cX9_bellTells 89 = .ok (.iconst 1, 1) := by decide +kernel
theorem dX9_bellTells_90 : decode cX9_bellTells 90 = .ok (.goto 4, 3) := by decide +kernel
theorem dX9_bellTells_93 : decode cX9_bellTells 93 = .ok (.iconst 0, 1) := by decide +kernel
theorem dX9_bellTells_94 : decode cX9_bellTells 94 = .ok (.ireturn, 1) := by decide +kernel
theorem dX9_bellTells_95 : decode cX9_bellTells 95 = .ok (.aload_n 0, 1) := by decide +kernel
theorem dX9_bellTells_96 : decode cX9_bellTells 96 = .ok (.getfield 7, 3) := by decide +kernel
theorem dX9_bellTells_99 : decode cX9_bellTells 99 = .ok (.bipush 26, 2) := by decide +kernel
theorem dX9_bellTells_101 : decode cX9_bellTells 101 = .ok (.iload_n 1, 1) := by decide +kernel
theorem dX9_bellTells_102 : decode cX9_bellTells 102 = .ok (.iadd, 1) := by decide +kernel
theorem dX9_bellTells_103 : decode cX9_bellTells 103 = .ok (.iaload, 1) := by decide +kernel
theorem dX9_bellTells_104 : decode cX9_bellTells 104 = .ok (.ireturn, 1) := by decide +kernel
theorem dX9_isHeavy_0 : decode cX9_isHeavy 0 = .ok (.iload_n 0, 1) := by decide +kernel
theorem dX9_isHeavy_1 : decode cX9_isHeavy 1 = .ok (.iconst 1, 1) := by decide +kernel
theorem dX9_isHeavy_2 : decode cX9_isHeavy 2 = .ok (.if_icmp .eq 8, 3) := by decide +kernel
theorem dX9_isHeavy_5 : decode cX9_isHeavy 5 = .ok (.iload_n 0, 1) := by decide +kernel
theorem dX9_isHeavy_6 : decode cX9_isHeavy 6 = .ok (.iconst 4, 1) := by decide +kernel
theorem dX9_isHeavy_7 : decode cX9_isHeavy 7 = .ok (.if_icmp .ne 7, 3) := by decide +kernel
theorem dX9_isHeavy_10 : decode cX9_isHeavy 10 = .ok (.iconst 1, 1) := by decide +kernel
theorem dX9_isHeavy_11 : decode cX9_isHeavy 11 = .ok (.goto 4, 3) := by decide +kernel
theorem dX9_isHeavy_14 : decode cX9_isHeavy 14 = .ok (.iconst 0, 1) := by decide +kernel
theorem dX9_isHeavy_15 : decode cX9_isHeavy 15 = .ok (.ireturn, 1) := by decide +kernel
theorem dX9_isQuick_0 : decode cX9_isQuick 0 = .ok (.iload_n 0, 1) := by decide +kernel
theorem dX9_isQuick_1 : decode cX9_isQuick 1 = .ok (.iconst 2, 1) := by decide +kernel
theorem dX9_isQuick_2 : decode cX9_isQuick 2 = .ok (.if_icmp .eq 8, 3) := by decide +kernel
theorem dX9_isQuick_5 : decode cX9_isQuick 5 = .ok (.iload_n 0, 1) := by decide +kernel
theorem dX9_isQuick_6 : decode cX9_isQuick 6 = .ok (.iconst 5, 1) := by decide +kernel
theorem dX9_isQuick_7 : decode cX9_isQuick 7 = .ok (.if_icmp .ne 7, 3) := by decide +kernel
theorem dX9_isQuick_10 : decode cX9_isQuick 10 = .ok (.iconst 1, 1) := by decide +kernel
theorem dX9_isQuick_11 : decode cX9_isQuick 11 = .ok (.goto 4, 3) := by decide +kernel
theorem dX9_isQuick_14 : decode cX9_isQuick 14 = .ok (.iconst 0, 1) := by decide +kernel
theorem dX9_isQuick_15 : decode cX9_isQuick 15 = .ok (.ireturn, 1) := by decide +kernel
theorem dX9_after_0 : decode cX9_after 0 = .ok (.iload_n 1, 1) := by decide +kernel
theorem dX9_after_1 : decode cX9_after 1 = .ok (.iload_n 0, 1) := by decide +kernel
theorem dX9_after_2 : decode cX9_after 2 = .ok (.invokestatic 151, 3) := by decide +kernel
theorem dX9_after_5 : decode cX9_after 5 = .ok (.ifCond .eq 9, 3) := by decide +kernel
theorem dX9_after_8 : decode cX9_after 8 = .ok (.iload_n 2, 1) := by decide +kernel
theorem dX9_after_9 : decode cX9_after 9 = .ok (.iconst 2, 1) := by decide +kernel
theorem dX9_after_10 : decode cX9_after 10 = .ok (.idiv, 1) := by decide +kernel
theorem dX9_after_11 : decode cX9_after 11 = .ok (.goto 4, 3) := by decide +kernel
theorem dX9_after_14 : decode cX9_after 14 = .ok (.iload_n 2, 1) := by decide +kernel
theorem dX9_after_15 : decode cX9_after 15 = .ok (.iadd, 1) := by decide +kernel
theorem dX9_after_16 : decode cX9_after 16 = .ok (.iload_n 0, 1) := by decide +kernel
theorem dX9_after_17 : decode cX9_after 17 = .ok (.invokestatic 154, 3) := by decide +kernel
theorem dX9_after_20 : decode cX9_after 20 = .ok (.ifCond .eq 7, 3) := by decide +kernel
theorem dX9_after_23 : decode cX9_after 23 = .ok (.iconst 0, 1) := by decide +kernel
theorem dX9_after_24 : decode cX9_after 24 = .ok (.goto 4, 3) := by decide +kernel
theorem dX9_after_27 : decode cX9_after 27 = .ok (.iconst 1, 1) := by decide +kernel
theorem dX9_after_28 : decode cX9_after 28 = .ok (.isub, 1) := by decide +kernel
theorem dX9_after_29 : decode cX9_after 29 = .ok (.istore_n 3, 1) := by decide +kernel
theorem dX9_after_30 : decode cX9_after 30 = .ok (.iload_n 3, 1) := by decide +kernel
theorem dX9_after_31 : decode cX9_after 31 = .ok (.ifCond .ge 7, 3) := by decide +kernel
theorem dX9_after_34 : decode cX9_after 34 = .ok (.iconst 0, 1) := by decide +kernel
theorem dX9_after_35 : decode cX9_after 35 = .ok (.goto 25, 3) := by decide +kernel
theorem dX9_after_38 : decode cX9_after 38 = .ok (.iload_n 3, 1) := by decide +kernel
theorem dX9_after_39 : decode cX9_after 39 = .ok (.bipush 21, 2) := by decide +kernel
theorem dX9_after_41 : decode cX9_after 41 = .ok (.if_icmp .le 7, 3) := by decide +kernel
theorem dX9_after_44 : decode cX9_after 44 = .ok (.iconst (-1), 1) := by decide +kernel
theorem dX9_after_45 : decode cX9_after 45 = .ok (.goto 15, 3) := by decide +kernel
theorem dX9_after_48 : decode cX9_after 48 = .ok (.iload_n 3, 1) := by decide +kernel
theorem dX9_after_49 : decode cX9_after 49 = .ok (.bipush 20, 2) := by decide +kernel
theorem dX9_after_51 : decode cX9_after 51 = .ok (.if_icmp .le 8, 3) := by decide +kernel
theorem dX9_after_54 : decode cX9_after 54 = .ok (.bipush 20, 2) := by decide +kernel
theorem dX9_after_56 : decode cX9_after 56 = .ok (.goto 4, 3) := by decide +kernel
theorem dX9_after_59 : decode cX9_after 59 = .ok (.iload_n 3, 1) := by decide +kernel
theorem dX9_after_60 : decode cX9_after 60 = .ok (.ireturn, 1) := by decide +kernel
theorem dX9_tenthsOf_0 : decode cX9_tenthsOf 0 = .ok (.iload_n 0, 1) := by decide +kernel
theorem dX9_tenthsOf_1 : decode cX9_tenthsOf 1 = .ok (.iconst 3, 1) := by decide +kernel
theorem dX9_tenthsOf_2 : decode cX9_tenthsOf 2 = .ok (.if_icmp .ne 7, 3) := by decide +kernel
theorem dX9_tenthsOf_5 : decode cX9_tenthsOf 5 = .ok (.iconst 1, 1) := by decide +kernel
theorem dX9_tenthsOf_6 : decode cX9_tenthsOf 6 = .ok (.goto 22, 3) := by decide +kernel
theorem dX9_tenthsOf_9 : decode cX9_tenthsOf 9 = .ok (.iload_n 0, 1) := by decide +kernel
theorem dX9_tenthsOf_10 : decode cX9_tenthsOf 10 = .ok (.iconst 4, 1) := by decide +kernel
theorem dX9_tenthsOf_11 : decode cX9_tenthsOf 11 = .ok (.if_icmp .ne 7, 3) := by decide +kernel
theorem dX9_tenthsOf_14 : decode cX9_tenthsOf 14 = .ok (.iconst 2, 1) := by decide +kernel
theorem dX9_tenthsOf_15 : decode cX9_tenthsOf 15 = .ok (.goto 13, 3) := by decide +kernel
theorem dX9_tenthsOf_18 : decode cX9_tenthsOf 18 = .ok (.iload_n 0, 1) := by decide +kernel
theorem dX9_tenthsOf_19 : decode cX9_tenthsOf 19 = .ok (.iconst 5, 1) := by decide +kernel
theorem dX9_tenthsOf_20 : decode cX9_tenthsOf 20 = .ok (.if_icmp .ne 7, 3) := by decide +kernel
theorem dX9_tenthsOf_23 : decode cX9_tenthsOf 23 = .ok (.iconst (-1), 1) := by decide +kernel
theorem dX9_tenthsOf_24 : decode cX9_tenthsOf 24 = .ok (.goto 4, 3) := by decide +kernel
theorem dX9_tenthsOf_27 : decode cX9_tenthsOf 27 = .ok (.iconst 0, 1) := by decide +kernel
theorem dX9_tenthsOf_28 : decode cX9_tenthsOf 28 = .ok (.istore 4, 2) := by decide +kernel
theorem dX9_tenthsOf_30 : decode cX9_tenthsOf 30 = .ok (.iload_n 2, 1) := by decide +kernel
theorem dX9_tenthsOf_31 : decode cX9_tenthsOf 31 = .ok (.iconst 5, 1) := by decide +kernel
theorem dX9_tenthsOf_32 : decode cX9_tenthsOf 32 = .ok (.if_icmp .ge 8, 3) := by decide +kernel
theorem dX9_tenthsOf_35 : decode cX9_tenthsOf 35 = .ok (.bipush (-9), 2) := by decide +kernel
theorem dX9_tenthsOf_37 : decode cX9_tenthsOf 37 = .ok (.goto 18, 3) := by decide +kernel
theorem dX9_tenthsOf_40 : decode cX9_tenthsOf 40 = .ok (.bipush 10, 2) := by decide +kernel
theorem dX9_tenthsOf_42 : decode cX9_tenthsOf 42 = .ok (.iload_n 2, 1) := by decide +kernel
theorem dX9_tenthsOf_43 : decode cX9_tenthsOf 43 = .ok (.iconst 2, 1) := by decide +kernel
theorem dX9_tenthsOf_44 : decode cX9_tenthsOf 44 = .ok (.idiv, 1) := by decide +kernel
theorem dX9_tenthsOf_45 : decode cX9_tenthsOf 45 = .ok (.iadd, 1) := by decide +kernel
theorem dX9_tenthsOf_46 : decode cX9_tenthsOf 46 = .ok (.iload_n 1, 1) := by decide +kernel
theorem dX9_tenthsOf_47 : decode cX9_tenthsOf 47 = .ok (.iconst 3, 1) := by decide +kernel
theorem dX9_tenthsOf_48 : decode cX9_tenthsOf 48 = .ok (.idiv, 1) := by decide +kernel
theorem dX9_tenthsOf_49 : decode cX9_tenthsOf 49 = .ok (.iadd, 1) := by decide +kernel
theorem dX9_tenthsOf_50 : decode cX9_tenthsOf 50 = .ok (.iload_n 3, 1) := by decide +kernel
theorem dX9_tenthsOf_51 : decode cX9_tenthsOf 51 = .ok (.isub, 1) := by decide +kernel
theorem dX9_tenthsOf_52 : decode cX9_tenthsOf 52 = .ok (.iload 4, 2) := by decide +kernel
theorem dX9_tenthsOf_54 : decode cX9_tenthsOf 54 = .ok (.iadd, 1) := by decide +kernel
theorem dX9_tenthsOf_55 : decode cX9_tenthsOf 55 = .ok (.ireturn, 1) := by decide +kernel
theorem dX9_strikesBy_0 : decode cX9_strikesBy 0 = .ok (.aload_n 0, 1) := by decide +kernel
theorem dX9_strikesBy_1 : decode cX9_strikesBy 1 = .ok (.getfield 7, 3) := by decide +kernel
theorem dX9_strikesBy_4 : decode cX9_strikesBy 4 = .ok (.iconst 2, 1) := by decide +kernel
theorem dX9_strikesBy_5 : decode cX9_strikesBy 5 = .ok (.iload_n 1, 1) := by decide +kernel
theorem dX9_strikesBy_6 : decode cX9_strikesBy 6 = .ok (.iadd, 1) := by decide +kernel
theorem dX9_strikesBy_7 : decode cX9_strikesBy 7 = .ok (.iaload, 1) := by decide +kernel
theorem dX9_strikesBy_8 : decode cX9_strikesBy 8 = .ok (.iload_n 2, 1) := by decide +kernel
theorem dX9_strikesBy_9 : decode cX9_strikesBy 9 = .ok (.iload_n 3, 1) := by decide +kernel
theorem dX9_strikesBy_10 : decode cX9_strikesBy 10 = .ok (.invokestatic 157, 3) := by decide +kernel
theorem dX9_strikesBy_13 : decode cX9_strikesBy 13 = .ok (.istore 4, 2) := by decide +kernel
theorem dX9_strikesBy_15 : decode cX9_strikesBy 15 = .ok (.aload_n 0, 1) := by decide +kernel
theorem dX9_strikesBy_16 : decode cX9_strikesBy 16 = .ok (.getfield 7, 3) := by decide +kernel
theorem dX9_strikesBy_19 : decode cX9_strikesBy 19 = .ok (.iconst 2, 1) := by decide +kernel
theorem dX9_strikesBy_20 : decode cX9_strikesBy 20 = .ok (.iload_n 1, 1) := by decide +kernel
theorem dX9_strikesBy_21 : decode cX9_strikesBy 21 = .ok (.iadd, 1) := by decide +kernel
theorem dX9_strikesBy_22 : decode cX9_strikesBy 22 = .ok (.iaload, 1) := by decide +kernel
theorem dX9_strikesBy_23 : decode cX9_strikesBy 23 = .ok (.aload_n 0, 1) := by decide +kernel
theorem dX9_strikesBy_24 : decode cX9_strikesBy 24 = .ok (.getfield 7, 3) := by decide +kernel
theorem dX9_strikesBy_27 : decode cX9_strikesBy 27 = .ok (.bipush 8, 2) := by decide +kernel
theorem dX9_strikesBy_29 : decode cX9_strikesBy 29 = .ok (.iload_n 1, 1) := by decide +kernel
theorem dX9_strikesBy_30 : decode cX9_strikesBy 30 = .ok (.iadd, 1) := by decide +kernel
theorem dX9_strikesBy_31 : decode cX9_strikesBy 31 = .ok (.iaload, 1) := by decide +kernel
theorem dX9_strikesBy_32 : decode cX9_strikesBy 32 = .ok (.iload 4, 2) := by decide +kernel
theorem dX9_strikesBy_34 : decode cX9_strikesBy 34 = .ok (.aload_n 0, 1) := by decide +kernel
theorem dX9_strikesBy_35 : decode cX9_strikesBy 35 = .ok (.getfield 7, 3) := by decide +kernel
theorem dX9_strikesBy_38 : decode cX9_strikesBy 38 = .ok (.iconst 1, 1) := by decide +kernel
theorem dX9_strikesBy_39 : decode cX9_strikesBy 39 = .ok (.iaload, 1) := by decide +kernel
theorem dX9_strikesBy_40 : decode cX9_strikesBy 40 = .ok (.invokestatic 160, 3) := by decide +kernel
theorem dX9_strikesBy_43 : decode cX9_strikesBy 43 = .ok (.ireturn, 1) := by decide +kernel
theorem dX9_markOf_0 : decode cX9_markOf 0 = .ok (.aload_n 0, 1) := by decide +kernel
theorem dX9_markOf_1 : decode cX9_markOf 1 = .ok (.getfield 7, 3) := by decide +kernel
theorem dX9_markOf_4 : decode cX9_markOf 4 = .ok (.bipush 14, 2) := by decide +kernel
theorem dX9_markOf_6 : decode cX9_markOf 6 = .ok (.iload_n 1, 1) := by decide +kernel
theorem dX9_markOf_7 : decode cX9_markOf 7 = .ok (.iadd, 1) := by decide +kernel
theorem dX9_markOf_8 : decode cX9_markOf 8 = .ok (.iaload, 1) := by decide +kernel
theorem dX9_markOf_9 : decode cX9_markOf 9 = .ok (.istore_n 3, 1) := by decide +kernel
theorem dX9_markOf_10 : decode cX9_markOf 10 = .ok (.iconst 0, 1) := by decide +kernel
theorem dX9_markOf_11 : decode cX9_markOf 11 = .ok (.istore 4, 2) := by decide +kernel
theorem dX9_markOf_13 : decode cX9_markOf 13 = .ok (.iload_n 2, 1) := by decide +kernel
theorem dX9_markOf_14 : decode cX9_markOf 14 = .ok (.tableswitch 150 1 4 #[30, 76, 81, 89], 30) := by decide +kernel
theorem dX9_markOf_44 : decode cX9_markOf 44 = .ok (.iconst 0, 1) := by decide +kernel
theorem dX9_markOf_45 : decode cX9_markOf 45 = .ok (.istore 5, 2) := by decide +kernel
theorem dX9_markOf_47 : decode cX9_markOf 47 = .ok (.iload 5, 2) := by decide +kernel
theorem dX9_markOf_49 : decode cX9_markOf 49 = .ok (.bipush 7, 2) := by decide +kernel
theorem dX9_markOf_51 : decode cX9_markOf 51 = .ok (.if_icmp .ge 36, 3) := by decide +kernel
theorem dX9_markOf_54 : decode cX9_markOf 54 = .ok (.aload_n 0, 1) := by decide +kernel
theorem dX9_markOf_55 : decode cX9_markOf 55 = .ok (.getfield 7, 3) := by decide +kernel
theorem dX9_markOf_58 : decode cX9_markOf 58 = .ok (.iconst 2, 1) := by decide +kernel
theorem dX9_markOf_59 : decode cX9_markOf 59 = .ok (.iload_n 1, 1) := by decide +kernel
theorem dX9_markOf_60 : decode cX9_markOf 60 = .ok (.iadd, 1) := by decide +kernel
theorem dX9_markOf_61 : decode cX9_markOf 61 = .ok (.iaload, 1) := by decide +kernel
theorem dX9_markOf_62 : decode cX9_markOf 62 = .ok (.iload_n 3, 1) := by decide +kernel
theorem dX9_markOf_63 : decode cX9_markOf 63 = .ok (.iload 5, 2) := by decide +kernel
theorem dX9_markOf_65 : decode cX9_markOf 65 = .ok (.invokestatic 157, 3) := by decide +kernel
theorem dX9_markOf_68 : decode cX9_markOf 68 = .ok (.iconst (-1), 1) := by decide +kernel
theorem dX9_markOf_69 : decode cX9_markOf 69 = .ok (.if_icmp .ne 8, 3) := by decide +kernel
theorem dX9_markOf_72 : decode cX9_markOf 72 = .ok (.iload 4, 2) := by decide +kernel
theorem dX9_markOf_74 : decode cX9_markOf 74 = .ok (.goto 5, 3) := by decide +kernel
theorem dX9_markOf_77 : decode cX9_markOf 77 = .ok (.iload 5, 2) := by decide +kernel
theorem dX9_markOf_79 : decode cX9_markOf 79 = .ok (.istore 4, 2) := by decide +kernel
theorem dX9_markOf_81 : decode cX9_markOf 81 = .ok (.iinc 5 1, 3) := by decide +kernel
theorem dX9_markOf_84 : decode cX9_markOf 84 = .ok (.goto (-37), 3) := by decide +kernel
theorem dX9_markOf_87 : decode cX9_markOf 87 = .ok (.iload 4, 2) := by decide +kernel
theorem dX9_markOf_89 : decode cX9_markOf 89 = .ok (.ireturn, 1) := by decide +kernel
theorem dX9_markOf_90 : decode cX9_markOf 90 = .ok (.bipush 20, 2) := by decide +kernel
theorem dX9_markOf_92 : decode cX9_markOf 92 = .ok (.iload_n 3, 1) := by decide +kernel
theorem dX9_markOf_93 : decode cX9_markOf 93 = .ok (.isub, 1) := by decide +kernel
theorem dX9_markOf_94 : decode cX9_markOf 94 = .ok (.ireturn, 1) := by decide +kernel
theorem dX9_markOf_95 : decode cX9_markOf 95 = .ok (.aload_n 0, 1) := by decide +kernel
theorem dX9_markOf_96 : decode cX9_markOf 96 = .ok (.iload_n 1, 1) := by decide +kernel
theorem dX9_markOf_97 : decode cX9_markOf 97 = .ok (.iload_n 3, 1) := by decide +kernel
theorem dX9_markOf_98 : decode cX9_markOf 98 = .ok (.iconst 1, 1) := by decide +kernel
theorem dX9_markOf_99 : decode cX9_markOf 99 = .ok (.invokevirtual 164, 3) := by decide +kernel
theorem dX9_markOf_102 : decode cX9_markOf 102 = .ok (.ireturn, 1) := by decide +kernel
theorem dX9_markOf_103 : decode cX9_markOf 103 = .ok (.iconst 0, 1) := by decide +kernel
theorem dX9_markOf_104 : decode cX9_markOf 104 = .ok (.istore 5, 2) := by decide +kernel
theorem dX9_markOf_106 : decode cX9_markOf 106 = .ok (.iload 5, 2) := by decide +kernel
theorem dX9_markOf_108 : decode cX9_markOf 108 = .ok (.aload_n 0, 1) := by decide +kernel
theorem dX9_markOf_109 : decode cX9_markOf 109 = .ok (.getfield 7, 3) := by decide +kernel
theorem dX9_markOf_112 : decode cX9_markOf 112 = .ok (.iconst 0, 1) := by decide +kernel
theorem dX9_markOf_113 : decode cX9_markOf 113 = .ok (.iaload, 1) := by decide +kernel
theorem dX9_markOf_114 : decode cX9_markOf 114 = .ok (.if_icmp .ge 47, 3) := by decide +kernel
theorem dX9_markOf_117 : decode cX9_markOf 117 = .ok (.iload 4, 2) := by decide +kernel
theorem dX9_markOf_119 : decode cX9_markOf 119 = .ok (.iload 5, 2) := by decide +kernel
theorem dX9_markOf_121 : decode cX9_markOf 121 = .ok (.iload_n 1, 1) := by decide +kernel
theorem dX9_markOf_122 : decode cX9_markOf 122 = .ok (.if_icmp .eq 29, 3) := by decide +kernel
theorem dX9_markOf_125 : decode cX9_markOf 125 = .ok (.aload_n 0, 1) := by decide +kernel
theorem dX9_markOf_126 : decode cX9_markOf 126 = .ok (.getfield 7, 3) := by decide +kernel
theorem dX9_markOf_129 : decode cX9_markOf 129 = .ok (.bipush 8, 2) := by decide +kernel
theorem dX9_markOf_131 : decode cX9_markOf 131 = .ok (.iload 5, 2) := by decide +kernel
theorem dX9_markOf_133 : decode cX9_markOf 133 = .ok (.iadd, 1) := by decide +kernel
theorem dX9_markOf_134 : decode cX9_markOf 134 = .ok (.iaload, 1) := by decide +kernel
theorem dX9_markOf_135 : decode cX9_markOf 135 = .ok (.aload_n 0, 1) := by decide +kernel
theorem dX9_markOf_136 : decode cX9_markOf 136 = .ok (.getfield 7, 3) := by decide +kernel
theorem dX9_markOf_139 : decode cX9_markOf 139 = .ok (.bipush 8, 2) := by decide +kernel
theorem dX9_markOf_141 : decode cX9_markOf 141 = .ok (.iload_n 1, 1) := by decide +kernel
theorem dX9_markOf_142 : decode cX9_markOf 142 = .ok (.iadd, 1) := by decide +kernel
theorem dX9_markOf_143 : decode cX9_markOf 143 = .ok (.iaload, 1) := by decide +kernel
theorem dX9_markOf_144 : decode cX9_markOf 144 = .ok (.if_icmp .lt 7, 3) := by decide +kernel
theorem dX9_markOf_147 : decode cX9_markOf 147 = .ok (.iconst 1, 1) := by decide +kernel
theorem dX9_markOf_148 : decode cX9_markOf 148 = .ok (.goto 4, 3) := by decide +kernel
theorem dX9_markOf_151 : decode cX9_markOf 151 = .ok (.iconst 0, 1) := by decide +kernel
theorem dX9_markOf_152 : decode cX9_markOf 152 = .ok (.iadd, 1) := by decide +kernel
theorem dX9_markOf_153 : decode cX9_markOf 153 = .ok (.istore 4, 2) := by decide +kernel
theorem dX9_markOf_155 : decode cX9_markOf 155 = .ok (.iinc 5 1, 3) := by decide +kernel
theorem dX9_markOf_158 : decode cX9_markOf 158 = .ok (.goto (-52), 3) := by decide +kernel
theorem dX9_markOf_161 : decode cX9_markOf 161 = .ok (.iload 4, 2) := by decide +kernel
theorem dX9_markOf_163 : decode cX9_markOf 163 = .ok (.ireturn, 1) := by decide +kernel
theorem dX9_markOf_164 : decode cX9_markOf 164 = .ok (.aload_n 0, 1) := by decide +kernel
theorem dX9_markOf_165 : decode cX9_markOf 165 = .ok (.iload_n 1, 1) := by decide +kernel
theorem dX9_markOf_166 : decode cX9_markOf 166 = .ok (.iload_n 3, 1) := by decide +kernel
theorem dX9_markOf_167 : decode cX9_markOf 167 = .ok (.iconst 1, 1) := by decide +kernel
theorem dX9_markOf_168 : decode cX9_markOf 168 = .ok (.invokevirtual 164, 3) := by decide +kernel
theorem dX9_markOf_171 : decode cX9_markOf 171 = .ok (.istore 5, 2) := by decide +kernel
theorem dX9_markOf_173 : decode cX9_markOf 173 = .ok (.iconst 0, 1) := by decide +kernel
theorem dX9_markOf_174 : decode cX9_markOf 174 = .ok (.istore 6, 2) := by decide +kernel
theorem dX9_markOf_176 : decode cX9_markOf 176 = .ok (.iload 6, 2) := by decide +kernel
theorem dX9_markOf_178 : decode cX9_markOf 178 = .ok (.aload_n 0, 1) := by decide +kernel
theorem dX9_markOf_179 : decode cX9_markOf 179 = .ok (.getfield 7, 3) := by decide +kernel
theorem dX9_markOf_182 : decode cX9_markOf 182 = .ok (.iconst 0, 1) := by decide +kernel
theorem dX9_markOf_183 : decode cX9_markOf 183 = .ok (.iaload, 1) := by decide +kernel
theorem dX9_markOf_184 : decode cX9_markOf 184 = .ok (.if_icmp .ge 58, 3) := by decide +kernel
theorem dX9_markOf_187 : decode cX9_markOf 187 = .ok (.aload_n 0, 1) := by decide +kernel
theorem dX9_markOf_188 : decode cX9_markOf 188 = .ok (.iload 6, 2) := by decide +kernel
theorem dX9_markOf_190 : decode cX9_markOf 190 = .ok (.aload_n 0, 1) := by decide +kernel
theorem dX9_markOf_191 : decode cX9_markOf 191 = .ok (.getfield 7, 3) := by decide +kernel
theorem dX9_markOf_194 : decode cX9_markOf 194 = .ok (.bipush 14, 2) := by decide +kernel
theorem dX9_markOf_196 : decode cX9_markOf 196 = .ok (.iload 6, 2) := by decide +kernel
theorem dX9_markOf_198 : decode cX9_markOf 198 = .ok (.iadd, 1) := by decide +kernel
theorem dX9_markOf_199 : decode cX9_markOf 199 = .ok (.iaload, 1) := by decide +kernel
theorem dX9_markOf_200 : decode cX9_markOf 200 = .ok (.iconst 1, 1) := by decide +kernel
theorem dX9_markOf_201 : decode cX9_markOf 201 = .ok (.invokevirtual 164, 3) := by decide +kernel
theorem dX9_markOf_204 : decode cX9_markOf 204 = .ok (.istore 7, 2) := by decide +kernel
theorem dX9_markOf_206 : decode cX9_markOf 206 = .ok (.iload 4, 2) := by decide +kernel
theorem dX9_markOf_208 : decode cX9_markOf 208 = .ok (.iload 6, 2) := by decide +kernel
theorem dX9_markOf_210 : decode cX9_markOf 210 = .ok (.iload_n 1, 1) := by decide +kernel
theorem dX9_markOf_211 : decode cX9_markOf 211 = .ok (.if_icmp .eq 21, 3) := by decide +kernel
theorem dX9_markOf_214 : decode cX9_markOf 214 = .ok (.iload 7, 2) := by decide +kernel
theorem dX9_markOf_216 : decode cX9_markOf 216 = .ok (.bipush (-9), 2) := by decide +kernel
theorem dX9_markOf_218 : decode cX9_markOf 218 = .ok (.if_icmp .eq 14, 3) := by decide +kernel
theorem dX9_markOf_221 : decode cX9_markOf 221 = .ok (.iload 7, 2) := by decide +kernel
theorem dX9_markOf_223 : decode cX9_markOf 223 = .ok (.iload 5, 2) := by decide +kernel
theorem dX9_markOf_225 : decode cX9_markOf 225 = .ok (.if_icmp .ge 7, 3) := by decide +kernel
theorem dX9_markOf_228 : decode cX9_markOf 228 = .ok (.iconst 1, 1) := by decide +kernel
theorem dX9_markOf_229 : decode cX9_markOf 229 = .ok (.goto 4, 3) := by decide +kernel
theorem dX9_markOf_232 : decode cX9_markOf 232 = .ok (.iconst 0, 1) := by decide +kernel
theorem dX9_markOf_233 : decode cX9_markOf 233 = .ok (.iadd, 1) := by decide +kernel
theorem dX9_markOf_234 : decode cX9_markOf 234 = .ok (.istore 4, 2) := by decide +kernel
theorem dX9_markOf_236 : decode cX9_markOf 236 = .ok (.iinc 6 1, 3) := by decide +kernel
theorem dX9_markOf_239 : decode cX9_markOf 239 = .ok (.goto (-63), 3) := by decide +kernel
theorem dX9_markOf_242 : decode cX9_markOf 242 = .ok (.iload 5, 2) := by decide +kernel
theorem dX9_markOf_244 : decode cX9_markOf 244 = .ok (.bipush (-9), 2) := by decide +kernel
theorem dX9_markOf_246 : decode cX9_markOf 246 = .ok (.if_icmp .ne 8, 3) := by decide +kernel
theorem dX9_markOf_249 : decode cX9_markOf 249 = .ok (.bipush (-9), 2) := by decide +kernel
theorem dX9_markOf_251 : decode cX9_markOf 251 = .ok (.goto 5, 3) := by decide +kernel
theorem dX9_markOf_254 : decode cX9_markOf 254 = .ok (.iload 4, 2) := by decide +kernel
theorem dX9_markOf_256 : decode cX9_markOf 256 = .ok (.ireturn, 1) := by decide +kernel
theorem dX9_mark_0 : decode cX9_mark 0 = .ok (.aload_n 0, 1) := by decide +kernel
theorem dX9_mark_1 : decode cX9_mark 1 = .ok (.iload_n 1, 1) := by decide +kernel
theorem dX9_mark_2 : decode cX9_mark 2 = .ok (.invokevirtual 145, 3) := by decide +kernel
theorem dX9_mark_5 : decode cX9_mark 5 = .ok (.ifCond .eq 15, 3) := by decide +kernel
theorem dX9_mark_8 : decode cX9_mark 8 = .ok (.iload_n 2, 1) := by decide +kernel
theorem dX9_mark_9 : decode cX9_mark 9 = .ok (.i2l, 1) := by decide +kernel
theorem dX9_mark_10 : decode cX9_mark 10 = .ok (.lconst 1, 1) := by decide +kernel
theorem dX9_mark_11 : decode cX9_mark 11 = .ok (.ldc2_w 81, 3) := by decide +kernel
theorem dX9_mark_14 : decode cX9_mark 14 = .ok (.invokestatic 83, 3) := by decide +kernel
theorem dX9_mark_17 : decode cX9_mark 17 = .ok (.ifCond .ne 5, 3) := by decide +kernel
theorem dX9_mark_20 : decode cX9_mark 20 = .ok (.iconst (-1), 1) := by decide +kernel
theorem dX9_mark_21 : decode cX9_mark 21 = .ok (.ireturn, 1) := by decide +kernel
theorem dX9_mark_22 : decode cX9_mark 22 = .ok (.aload_n 0, 1) := by decide +kernel
theorem dX9_mark_23 : decode cX9_mark 23 = .ok (.getfield 7, 3) := by decide +kernel
theorem dX9_mark_26 : decode cX9_mark 26 = .ok (.iconst 2, 1) := by decide +kernel
theorem dX9_mark_27 : decode cX9_mark 27 = .ok (.iload_n 1, 1) := by decide +kernel
theorem dX9_mark_28 : decode cX9_mark 28 = .ok (.iadd, 1) := by decide +kernel
theorem dX9_mark_29 : decode cX9_mark 29 = .ok (.iaload, 1) := by decide +kernel
theorem dX9_mark_30 : decode cX9_mark 30 = .ok (.istore_n 3, 1) := by decide +kernel
theorem dX9_mark_31 : decode cX9_mark 31 = .ok (.iload_n 3, 1) := by decide +kernel
theorem dX9_mark_32 : decode cX9_mark 32 = .ok (.iload_n 2, 1) := by decide +kernel
theorem dX9_mark_33 : decode cX9_mark 33 = .ok (.if_icmp .eq 23, 3) := by decide +kernel
theorem dX9_mark_36 : decode cX9_mark 36 = .ok (.iload_n 2, 1) := by decide +kernel
theorem dX9_mark_37 : decode cX9_mark 37 = .ok (.iconst 1, 1) := by decide +kernel
theorem dX9_mark_38 : decode cX9_mark 38 = .ok (.if_icmp .ne 8, 3) := by decide +kernel
theorem dX9_mark_41 : decode cX9_mark 41 = .ok (.iload_n 3, 1) := by decide +kernel
theorem dX9_mark_42 : decode cX9_mark 42 = .ok (.iconst 4, 1) := by decide +kernel
theorem dX9_mark_43 : decode cX9_mark 43 = .ok (.if_icmp .eq 13, 3) := by decide +kernel
theorem dX9_mark_46 : decode cX9_mark 46 = .ok (.iload_n 2, 1) := by decide +kernel
theorem dX9_mark_47 : decode cX9_mark 47 = .ok (.iconst 2, 1) := by decide +kernel
theorem dX9_mark_48 : decode cX9_mark 48 = .ok (.if_icmp .ne 12, 3) := by decide +kernel
theorem dX9_mark_51 : decode cX9_mark 51 = .ok (.iload_n 3, 1) := by decide +kernel
theorem dX9_mark_52 : decode cX9_mark 52 = .ok (.iconst 5, 1) := by decide +kernel
theorem dX9_mark_53 : decode cX9_mark 53 = .ok (.if_icmp .ne 7, 3) := by decide +kernel
theorem dX9_mark_56 : decode cX9_mark 56 = .ok (.iconst 1, 1) := by decide +kernel
theorem dX9_mark_57 : decode cX9_mark 57 = .ok (.goto 4, 3) := by decide +kernel
theorem dX9_mark_60 : decode cX9_mark 60 = .ok (.iconst 0, 1) := by decide +kernel
theorem dX9_mark_61 : decode cX9_mark 61 = .ok (.istore 4, 2) := by decide +kernel
theorem dX9_mark_63 : decode cX9_mark 63 = .ok (.iload 4, 2) := by decide +kernel
theorem dX9_mark_65 : decode cX9_mark 65 = .ok (.ifCond .eq 12, 3) := by decide +kernel
theorem dX9_mark_68 : decode cX9_mark 68 = .ok (.aload_n 0, 1) := by decide +kernel
theorem dX9_mark_69 : decode cX9_mark 69 = .ok (.iload_n 1, 1) := by decide +kernel
theorem dX9_mark_70 : decode cX9_mark 70 = .ok (.iload_n 2, 1) := by decide +kernel
theorem dX9_mark_71 : decode cX9_mark 71 = .ok (.invokevirtual 167, 3) := by decide +kernel
theorem dX9_mark_74 : decode cX9_mark 74 = .ok (.goto 8, 3) := by decide +kernel
theorem dX9_mark_77 : decode cX9_mark 77 = .ok (.aload_n 0, 1) := by decide +kernel
theorem dX9_mark_78 : decode cX9_mark 78 = .ok (.iconst 3, 1) := by decide +kernel
theorem dX9_mark_79 : decode cX9_mark 79 = .ok (.invokevirtual 93, 3) := by decide +kernel
theorem dX9_mark_82 : decode cX9_mark 82 = .ok (.ireturn, 1) := by decide +kernel
theorem dX9_damp_0 : decode cX9_damp 0 = .ok (.iload_n 1, 1) := by decide +kernel
theorem dX9_damp_1 : decode cX9_damp 1 = .ok (.i2l, 1) := by decide +kernel
theorem dX9_damp_2 : decode cX9_damp 2 = .ok (.lconst 0, 1) := by decide +kernel
theorem dX9_damp_3 : decode cX9_damp 3 = .ok (.ldc2_w 87, 3) := by decide +kernel
theorem dX9_damp_6 : decode cX9_damp 6 = .ok (.invokestatic 83, 3) := by decide +kernel
theorem dX9_damp_9 : decode cX9_damp 9 = .ok (.ifCond .ne 5, 3) := by decide +kernel
theorem dX9_damp_12 : decode cX9_damp 12 = .ok (.iconst (-1), 1) := by decide +kernel
theorem dX9_damp_13 : decode cX9_damp 13 = .ok (.ireturn, 1) := by decide +kernel
theorem dX9_damp_14 : decode cX9_damp 14 = .ok (.aload_n 0, 1) := by decide +kernel
theorem dX9_damp_15 : decode cX9_damp 15 = .ok (.getfield 7, 3) := by decide +kernel
theorem dX9_damp_18 : decode cX9_damp 18 = .ok (.iconst 0, 1) := by decide +kernel
theorem dX9_damp_19 : decode cX9_damp 19 = .ok (.iaload, 1) := by decide +kernel
theorem dX9_damp_20 : decode cX9_damp 20 = .ok (.ifCond .ne 6, 3) := by decide +kernel
theorem dX9_damp_23 : decode cX9_damp 23 = .ok (.bipush (-4), 2) := by decide +kernel
theorem dX9_damp_25 : decode cX9_damp 25 = .ok (.ireturn, 1) := by decide +kernel
theorem dX9_damp_26 : decode cX9_damp 26 = .ok (.aload_n 0, 1) := by decide +kernel
theorem dX9_damp_27 : decode cX9_damp 27 = .ok (.getfield 7, 3) := by decide +kernel
theorem dX9_damp_30 : decode cX9_damp 30 = .ok (.iconst 1, 1) := by decide +kernel
theorem dX9_damp_31 : decode cX9_damp 31 = .ok (.iaload, 1) := by decide +kernel
theorem dX9_damp_32 : decode cX9_damp 32 = .ok (.istore_n 2, 1) := by decide +kernel
theorem dX9_damp_33 : decode cX9_damp 33 = .ok (.aload_n 0, 1) := by decide +kernel
theorem dX9_damp_34 : decode cX9_damp 34 = .ok (.getfield 7, 3) := by decide +kernel
theorem dX9_damp_37 : decode cX9_damp 37 = .ok (.iconst 1, 1) := by decide +kernel
theorem dX9_damp_38 : decode cX9_damp 38 = .ok (.iload_n 1, 1) := by decide +kernel
theorem dX9_damp_39 : decode cX9_damp 39 = .ok (.iastore, 1) := by decide +kernel
theorem dX9_damp_40 : decode cX9_damp 40 = .ok (.iload_n 2, 1) := by decide +kernel
theorem dX9_damp_41 : decode cX9_damp 41 = .ok (.ireturn, 1) := by decide +kernel
theorem dX9_minds_0 : decode cX9_minds 0 = .ok (.aload_n 0, 1) := by decide +kernel
theorem dX9_minds_1 : decode cX9_minds 1 = .ok (.iconst 0, 1) := by decide +kernel
theorem dX9_minds_2 : decode cX9_minds 2 = .ok (.bipush 32, 2) := by decide +kernel
theorem dX9_minds_4 : decode cX9_minds 4 = .ok (.aload_n 0, 1) := by decide +kernel
theorem dX9_minds_5 : decode cX9_minds 5 = .ok (.getfield 142, 3) := by decide +kernel
theorem dX9_minds_8 : decode cX9_minds 8 = .ok (.iconst 1, 1) := by decide +kernel
theorem dX9_minds_9 : decode cX9_minds 9 = .ok (.iadd, 1) := by decide +kernel
theorem dX9_minds_10 : decode cX9_minds 10 = .ok (.imul, 1) := by decide +kernel
theorem dX9_minds_11 : decode cX9_minds 11 = .ok (.bipush 32, 2) := by decide +kernel
theorem dX9_minds_13 : decode cX9_minds 13 = .ok (.invokevirtual 138, 3) := by decide +kernel
theorem dX9_minds_16 : decode cX9_minds 16 = .ok (.aload_n 0, 1) := by decide +kernel
theorem dX9_minds_17 : decode cX9_minds 17 = .ok (.dup, 1) := by decide +kernel
theorem dX9_minds_18 : decode cX9_minds 18 = .ok (.getfield 142, 3) := by decide +kernel
theorem dX9_minds_21 : decode cX9_minds 21 = .ok (.iconst 1, 1) := by decide +kernel
theorem dX9_minds_22 : decode cX9_minds 22 = .ok (.iadd, 1) := by decide +kernel
theorem dX9_minds_23 : decode cX9_minds 23 = .ok (.putfield 142, 3) := by decide +kernel
theorem dX9_minds_26 : decode cX9_minds 26 = .ok (.return_, 1) := by decide +kernel
theorem dX9_strokes_0 : decode cX9_strokes 0 = .ok (.aload_n 0, 1) := by decide +kernel
theorem dX9_strokes_1 : decode cX9_strokes 1 = .ok (.getfield 7, 3) := by decide +kernel
theorem dX9_strokes_4 : decode cX9_strokes 4 = .ok (.iconst 2, 1) := by decide +kernel
theorem dX9_strokes_5 : decode cX9_strokes 5 = .ok (.iload_n 1, 1) := by decide +kernel
theorem dX9_strokes_6 : decode cX9_strokes 6 = .ok (.iadd, 1) := by decide +kernel
theorem dX9_strokes_7 : decode cX9_strokes 7 = .ok (.iaload, 1) := by decide +kernel
theorem dX9_strokes_8 : decode cX9_strokes 8 = .ok (.aload_n 0, 1) := by decide +kernel
theorem dX9_strokes_9 : decode cX9_strokes 9 = .ok (.getfield 7, 3) := by decide +kernel
theorem dX9_strokes_12 : decode cX9_strokes 12 = .ok (.bipush 14, 2) := by decide +kernel
theorem dX9_strokes_14 : decode cX9_strokes 14 = .ok (.iload_n 1, 1) := by decide +kernel
theorem dX9_strokes_15 : decode cX9_strokes 15 = .ok (.iadd, 1) := by decide +kernel
theorem dX9_strokes_16 : decode cX9_strokes 16 = .ok (.iaload, 1) := by decide +kernel
theorem dX9_strokes_17 : decode cX9_strokes 17 = .ok (.iload_n 2, 1) := by decide +kernel
theorem dX9_strokes_18 : decode cX9_strokes 18 = .ok (.invokestatic 157, 3) := by decide +kernel
theorem dX9_strokes_21 : decode cX9_strokes 21 = .ok (.istore_n 3, 1) := by decide +kernel
theorem dX9_strokes_22 : decode cX9_strokes 22 = .ok (.aload_n 0, 1) := by decide +kernel
theorem dX9_strokes_23 : decode cX9_strokes 23 = .ok (.getfield 7, 3) := by decide +kernel
theorem dX9_strokes_26 : decode cX9_strokes 26 = .ok (.bipush 14, 2) := by decide +kernel
theorem dX9_strokes_28 : decode cX9_strokes 28 = .ok (.iload_n 1, 1) := by decide +kernel
theorem dX9_strokes_29 : decode cX9_strokes 29 = .ok (.iadd, 1) := by decide +kernel
theorem dX9_strokes_30 : decode cX9_strokes 30 = .ok (.iload_n 3, 1) := by decide +kernel
theorem dX9_strokes_31 : decode cX9_strokes 31 = .ok (.iconst (-1), 1) := by decide +kernel
theorem dX9_strokes_32 : decode cX9_strokes 32 = .ok (.if_icmp .ne 7, 3) := by decide +kernel
theorem dX9_strokes_35 : decode cX9_strokes 35 = .ok (.iconst 0, 1) := by decide +kernel
theorem dX9_strokes_36 : decode cX9_strokes 36 = .ok (.goto 4, 3) := by decide +kernel
theorem dX9_strokes_39 : decode cX9_strokes 39 = .ok (.iload_n 3, 1) := by decide +kernel
theorem dX9_strokes_40 : decode cX9_strokes 40 = .ok (.iastore, 1) := by decide +kernel
theorem dX9_strokes_41 : decode cX9_strokes 41 = .ok (.aload_n 0, 1) := by decide +kernel
theorem dX9_strokes_42 : decode cX9_strokes 42 = .ok (.getfield 7, 3) := by decide +kernel
theorem dX9_strokes_45 : decode cX9_strokes 45 = .ok (.bipush 20, 2) := by decide +kernel
theorem dX9_strokes_47 : decode cX9_strokes 47 = .ok (.iload_n 1, 1) := by decide +kernel
theorem dX9_strokes_48 : decode cX9_strokes 48 = .ok (.iadd, 1) := by decide +kernel
theorem dX9_strokes_49 : decode cX9_strokes 49 = .ok (.iload_n 3, 1) := by decide +kernel
theorem dX9_strokes_50 : decode cX9_strokes 50 = .ok (.iconst (-1), 1) := by decide +kernel
theorem dX9_strokes_51 : decode cX9_strokes 51 = .ok (.if_icmp .ne 7, 3) := by decide +kernel
theorem dX9_strokes_54 : decode cX9_strokes 54 = .ok (.iconst 1, 1) := by decide +kernel
theorem dX9_strokes_55 : decode cX9_strokes 55 = .ok (.goto 4, 3) := by decide +kernel
theorem dX9_strokes_58 : decode cX9_strokes 58 = .ok (.iconst 0, 1) := by decide +kernel
theorem dX9_strokes_59 : decode cX9_strokes 59 = .ok (.iastore, 1) := by decide +kernel
theorem dX9_strokes_60 : decode cX9_strokes 60 = .ok (.aload_n 0, 1) := by decide +kernel
theorem dX9_strokes_61 : decode cX9_strokes 61 = .ok (.getfield 7, 3) := by decide +kernel
theorem dX9_strokes_64 : decode cX9_strokes 64 = .ok (.bipush 26, 2) := by decide +kernel
theorem dX9_strokes_66 : decode cX9_strokes 66 = .ok (.iload_n 1, 1) := by decide +kernel
theorem dX9_strokes_67 : decode cX9_strokes 67 = .ok (.iadd, 1) := by decide +kernel
theorem dX9_strokes_68 : decode cX9_strokes 68 = .ok (.dup2, 1) := by decide +kernel
theorem dX9_strokes_69 : decode cX9_strokes 69 = .ok (.iaload, 1) := by decide +kernel
theorem dX9_strokes_70 : decode cX9_strokes 70 = .ok (.iconst 1, 1) := by decide +kernel
theorem dX9_strokes_71 : decode cX9_strokes 71 = .ok (.iadd, 1) := by decide +kernel
theorem dX9_strokes_72 : decode cX9_strokes 72 = .ok (.iastore, 1) := by decide +kernel
theorem dX9_strokes_73 : decode cX9_strokes 73 = .ok (.return_, 1) := by decide +kernel
theorem dX9_isPull_0 : decode cX9_isPull 0 = .ok (.iload_n 0, 1) := by decide +kernel
theorem dX9_isPull_1 : decode cX9_isPull 1 = .ok (.i2l, 1) := by decide +kernel
theorem dX9_isPull_2 : decode cX9_isPull 2 = .ok (.lconst 0, 1) := by decide +kernel
theorem dX9_isPull_3 : decode cX9_isPull 3 = .ok (.ldc2_w 170, 3) := by decide +kernel
theorem dX9_isPull_6 : decode cX9_isPull 6 = .ok (.invokestatic 83, 3) := by decide +kernel
theorem dX9_isPull_9 : decode cX9_isPull 9 = .ok (.ireturn, 1) := by decide +kernel
theorem dX9_stroke_0 : decode cX9_stroke 0 = .ok (.aload_n 0, 1) := by decide +kernel
theorem dX9_stroke_1 : decode cX9_stroke 1 = .ok (.iload_n 1, 1) := by decide +kernel
theorem dX9_stroke_2 : decode cX9_stroke 2 = .ok (.invokevirtual 145, 3) := by decide +kernel
theorem dX9_stroke_5 : decode cX9_stroke 5 = .ok (.ifCond .eq 10, 3) := by decide +kernel
theorem dX9_stroke_8 : decode cX9_stroke 8 = .ok (.iload_n 2, 1) := by decide +kernel
theorem dX9_stroke_9 : decode cX9_stroke 9 = .ok (.invokestatic 172, 3) := by decide +kernel
theorem dX9_stroke_12 : decode cX9_stroke 12 = .ok (.ifCond .ne 5, 3) := by decide +kernel
theorem dX9_stroke_15 : decode cX9_stroke 15 = .ok (.iconst (-1), 1) := by decide +kernel
theorem dX9_stroke_16 : decode cX9_stroke 16 = .ok (.ireturn, 1) := by decide +kernel
theorem dX9_stroke_17 : decode cX9_stroke 17 = .ok (.aload_n 0, 1) := by decide +kernel
theorem dX9_stroke_18 : decode cX9_stroke 18 = .ok (.iload_n 1, 1) := by decide +kernel
theorem dX9_stroke_19 : decode cX9_stroke 19 = .ok (.invokevirtual 175, 3) := by decide +kernel
theorem dX9_stroke_22 : decode cX9_stroke 22 = .ok (.ifCond .eq 6, 3) := by decide +kernel
theorem dX9_stroke_25 : decode cX9_stroke 25 = .ok (.bipush (-4), 2) := by decide +kernel
theorem dX9_stroke_27 : decode cX9_stroke 27 = .ok (.ireturn, 1) := by decide +kernel
theorem dX9_stroke_28 : decode cX9_stroke 28 = .ok (.aload_n 0, 1) := by decide +kernel
theorem dX9_stroke_29 : decode cX9_stroke 29 = .ok (.getfield 142, 3) := by decide +kernel
theorem dX9_stroke_32 : decode cX9_stroke 32 = .ok (.bipush 40, 2) := by decide +kernel
theorem dX9_stroke_34 : decode cX9_stroke 34 = .ok (.if_icmp .ne 6, 3) := by decide +kernel
theorem dX9_stroke_37 : decode cX9_stroke 37 = .ok (.bipush (-2), 2) := by decide +kernel
theorem dX9_stroke_39 : decode cX9_stroke 39 = .ok (.ireturn, 1) := by decide +kernel
theorem dX9_stroke_40 : decode cX9_stroke 40 = .ok (.aload_n 0, 1) := by decide +kernel
theorem dX9_stroke_41 : decode cX9_stroke 41 = .ok (.invokevirtual 178, 3) := by decide +kernel
theorem dX9_stroke_44 : decode cX9_stroke 44 = .ok (.aload_n 0, 1) := by decide +kernel
theorem dX9_stroke_45 : decode cX9_stroke 45 = .ok (.iload_n 1, 1) := by decide +kernel
theorem dX9_stroke_46 : decode cX9_stroke 46 = .ok (.iload_n 2, 1) := by decide +kernel
theorem dX9_stroke_47 : decode cX9_stroke 47 = .ok (.invokevirtual 181, 3) := by decide +kernel
theorem dX9_stroke_50 : decode cX9_stroke 50 = .ok (.aload_n 0, 1) := by decide +kernel
theorem dX9_stroke_51 : decode cX9_stroke 51 = .ok (.getfield 7, 3) := by decide +kernel
theorem dX9_stroke_54 : decode cX9_stroke 54 = .ok (.bipush 14, 2) := by decide +kernel
theorem dX9_stroke_56 : decode cX9_stroke 56 = .ok (.iload_n 1, 1) := by decide +kernel
theorem dX9_stroke_57 : decode cX9_stroke 57 = .ok (.iadd, 1) := by decide +kernel
theorem dX9_stroke_58 : decode cX9_stroke 58 = .ok (.iaload, 1) := by decide +kernel
theorem dX9_stroke_59 : decode cX9_stroke 59 = .ok (.ireturn, 1) := by decide +kernel
theorem dX9_against_0 : decode cX9_against 0 = .ok (.iload_n 1, 1) := by decide +kernel
theorem dX9_against_1 : decode cX9_against 1 = .ok (.invokestatic 89, 3) := by decide +kernel
theorem dX9_against_4 : decode cX9_against 4 = .ok (.ifCond .ne 5, 3) := by decide +kernel
theorem dX9_against_7 : decode cX9_against 7 = .ok (.iconst (-1), 1) := by decide +kernel
theorem dX9_against_8 : decode cX9_against 8 = .ok (.ireturn, 1) := by decide +kernel
theorem dX9_against_9 : decode cX9_against 9 = .ok (.aload_n 0, 1) := by decide +kernel
theorem dX9_against_10 : decode cX9_against 10 = .ok (.getfield 7, 3) := by decide +kernel
theorem dX9_against_13 : decode cX9_against 13 = .ok (.iconst 0, 1) := by decide +kernel
theorem dX9_against_14 : decode cX9_against 14 = .ok (.iaload, 1) := by decide +kernel
theorem dX9_against_15 : decode cX9_against 15 = .ok (.ifCond .ne 6, 3) := by decide +kernel
theorem dX9_against_18 : decode cX9_against 18 = .ok (.bipush (-4), 2) := by decide +kernel
theorem dX9_against_20 : decode cX9_against 20 = .ok (.ireturn, 1) := by decide +kernel
theorem dX9_against_21 : decode cX9_against 21 = .ok (.aload_n 0, 1) := by decide +kernel
theorem dX9_against_22 : decode cX9_against 22 = .ok (.getfield 19, 3) := by decide +kernel
theorem dX9_against_25 : decode cX9_against 25 = .ok (.iload_n 1, 1) := by decide +kernel
theorem dX9_against_26 : decode cX9_against 26 = .ok (.iaload, 1) := by decide +kernel
theorem dX9_against_27 : decode cX9_against 27 = .ok (.ifCond .ge 9, 3) := by decide +kernel
theorem dX9_against_30 : decode cX9_against 30 = .ok (.aload_n 0, 1) := by decide +kernel
theorem dX9_against_31 : decode cX9_against 31 = .ok (.iconst 1, 1) := by decide +kernel
theorem dX9_against_32 : decode cX9_against 32 = .ok (.invokevirtual 93, 3) := by decide +kernel
theorem dX9_against_35 : decode cX9_against 35 = .ok (.ireturn, 1) := by decide +kernel
theorem dX9_against_36 : decode cX9_against 36 = .ok (.aload_n 0, 1) := by decide +kernel
theorem dX9_against_37 : decode cX9_against 37 = .ok (.getfield 19, 3) := by decide +kernel
theorem dX9_against_40 : decode cX9_against 40 = .ok (.iload_n 1, 1) := by decide +kernel
theorem dX9_against_41 : decode cX9_against 41 = .ok (.iaload, 1) := by decide +kernel
theorem dX9_against_42 : decode cX9_against 42 = .ok (.aload_n 0, 1) := by decide +kernel
theorem dX9_against_43 : decode cX9_against 43 = .ok (.getfield 7, 3) := by decide +kernel
theorem dX9_against_46 : decode cX9_against 46 = .ok (.iconst 0, 1) := by decide +kernel
theorem dX9_against_47 : decode cX9_against 47 = .ok (.iaload, 1) := by decide +kernel
theorem dX9_against_48 : decode cX9_against 48 = .ok (.if_icmp .eq 9, 3) := by decide +kernel
theorem dX9_against_51 : decode cX9_against 51 = .ok (.aload_n 0, 1) := by decide +kernel
theorem dX9_against_52 : decode cX9_against 52 = .ok (.iconst 5, 1) := by decide +kernel
theorem dX9_against_53 : decode cX9_against 53 = .ok (.invokevirtual 93, 3) := by decide +kernel
theorem dX9_against_56 : decode cX9_against 56 = .ok (.ireturn, 1) := by decide +kernel
theorem dX9_against_57 : decode cX9_against 57 = .ok (.iconst 0, 1) := by decide +kernel
theorem dX9_against_58 : decode cX9_against 58 = .ok (.istore_n 2, 1) := by decide +kernel
theorem dX9_against_59 : decode cX9_against 59 = .ok (.iload_n 2, 1) := by decide +kernel
theorem dX9_against_60 : decode cX9_against 60 = .ok (.aload_n 0, 1) := by decide +kernel
theorem dX9_against_61 : decode cX9_against 61 = .ok (.getfield 7, 3) := by decide +kernel
theorem dX9_against_64 : decode cX9_against 64 = .ok (.iconst 0, 1) := by decide +kernel
theorem dX9_against_65 : decode cX9_against 65 = .ok (.iaload, 1) := by decide +kernel
theorem dX9_against_66 : decode cX9_against 66 = .ok (.if_icmp .ge 32, 3) := by decide +kernel
theorem dX9_against_69 : decode cX9_against 69 = .ok (.aload_n 0, 1) := by decide +kernel
theorem dX9_against_70 : decode cX9_against 70 = .ok (.getfield 16, 3) := by decide +kernel
theorem dX9_against_73 : decode cX9_against 73 = .ok (.bipush 40, 2) := by decide +kernel
theorem dX9_against_75 : decode cX9_against 75 = .ok (.iload_n 1, 1) := by decide +kernel
theorem dX9_against_76 : decode cX9_against 76 = .ok (.imul, 1) := by decide +kernel
theorem dX9_against_77 : decode cX9_against 77 = .ok (.iload_n 2, 1) := by decide +kernel
theorem dX9_against_78 : decode cX9_against 78 = .ok (.iadd, 1) := by decide +kernel
theorem dX9_against_79 : decode cX9_against 79 = .ok (.iaload, 1) := by decide +kernel
theorem dX9_against_80 : decode cX9_against 80 = .ok (.invokestatic 172, 3) := by decide +kernel
theorem dX9_against_83 : decode cX9_against 83 = .ok (.ifCond .ne 9, 3) := by decide +kernel
theorem dX9_against_86 : decode cX9_against 86 = .ok (.aload_n 0, 1) := by decide +kernel
theorem dX9_against_87 : decode cX9_against 87 = .ok (.iconst 3, 1) := by decide +kernel
theorem dX9_against_88 : decode cX9_against 88 = .ok (.invokevirtual 93, 3) := by decide +kernel
theorem dX9_against_91 : decode cX9_against 91 = .ok (.ireturn, 1) := by decide +kernel
theorem dX9_against_92 : decode cX9_against 92 = .ok (.iinc 2 1, 3) := by decide +kernel
theorem dX9_against_95 : decode cX9_against 95 = .ok (.goto (-36), 3) := by decide +kernel
theorem dX9_against_98 : decode cX9_against 98 = .ok (.iconst 0, 1) := by decide +kernel
theorem dX9_against_99 : decode cX9_against 99 = .ok (.ireturn, 1) := by decide +kernel
theorem dX9_rings_0 : decode cX9_rings 0 = .ok (.aload_n 0, 1) := by decide +kernel
theorem dX9_rings_1 : decode cX9_rings 1 = .ok (.iconst 0, 1) := by decide +kernel
theorem dX9_rings_2 : decode cX9_rings 2 = .ok (.putfield 184, 3) := by decide +kernel
theorem dX9_rings_5 : decode cX9_rings 5 = .ok (.aload_n 0, 1) := by decide +kernel
theorem dX9_rings_6 : decode cX9_rings 6 = .ok (.iconst 0, 1) := by decide +kernel
theorem dX9_rings_7 : decode cX9_rings 7 = .ok (.putfield 188, 3) := by decide +kernel
theorem dX9_rings_10 : decode cX9_rings 10 = .ok (.iconst 0, 1) := by decide +kernel
theorem dX9_rings_11 : decode cX9_rings 11 = .ok (.istore_n 1, 1) := by decide +kernel
theorem dX9_rings_12 : decode cX9_rings 12 = .ok (.iload_n 1, 1) := by decide +kernel
theorem dX9_rings_13 : decode cX9_rings 13 = .ok (.aload_n 0, 1) := by decide +kernel
theorem dX9_rings_14 : decode cX9_rings 14 = .ok (.getfield 7, 3) := by decide +kernel
theorem dX9_rings_17 : decode cX9_rings 17 = .ok (.iconst 0, 1) := by decide +kernel
theorem dX9_rings_18 : decode cX9_rings 18 = .ok (.iaload, 1) := by decide +kernel
theorem dX9_rings_19 : decode cX9_rings 19 = .ok (.if_icmp .ge 212, 3) := by decide +kernel
theorem dX9_rings_22 : decode cX9_rings 22 = .ok (.aload_n 0, 1) := by decide +kernel
theorem dX9_rings_23 : decode cX9_rings 23 = .ok (.iload_n 1, 1) := by decide +kernel
theorem dX9_rings_24 : decode cX9_rings 24 = .ok (.invokevirtual 175, 3) := by decide +kernel
theorem dX9_rings_27 : decode cX9_rings 27 = .ok (.ifCond .eq 7, 3) := by decide +kernel
theorem dX9_rings_30 : decode cX9_rings 30 = .ok (.iconst 0, 1) := by decide +kernel
theorem dX9_rings_31 : decode cX9_rings 31 = .ok (.goto 29, 3) := by decide +kernel
theorem dX9_rings_34 : decode cX9_rings 34 = .ok (.aload_n 0, 1) := by decide +kernel
theorem dX9_rings_35 : decode cX9_rings 35 = .ok (.getfield 7, 3) := by decide +kernel
theorem dX9_rings_38 : decode cX9_rings 38 = .ok (.iconst 2, 1) := by decide +kernel
theorem dX9_rings_39 : decode cX9_rings 39 = .ok (.iload_n 1, 1) := by decide +kernel
theorem dX9_rings_40 : decode cX9_rings 40 = .ok (.iadd, 1) := by decide +kernel
theorem dX9_rings_41 : decode cX9_rings 41 = .ok (.iaload, 1) := by decide +kernel
theorem dX9_rings_42 : decode cX9_rings 42 = .ok (.aload_n 0, 1) := by decide +kernel
theorem dX9_rings_43 : decode cX9_rings 43 = .ok (.getfield 7, 3) := by decide +kernel
theorem dX9_rings_46 : decode cX9_rings 46 = .ok (.bipush 14, 2) := by decide +kernel
theorem dX9_rings_48 : decode cX9_rings 48 = .ok (.iload_n 1, 1) := by decide +kernel
theorem dX9_rings_49 : decode cX9_rings 49 = .ok (.iadd, 1) := by decide +kernel
theorem dX9_rings_50 : decode cX9_rings 50 = .ok (.iaload, 1) := by decide +kernel
theorem dX9_rings_51 : decode cX9_rings 51 = .ok (.aload_n 0, 1) := by decide +kernel
theorem dX9_rings_52 : decode cX9_rings 52 = .ok (.getfield 38, 3) := by decide +kernel
theorem dX9_rings_55 : decode cX9_rings 55 = .ok (.iload_n 1, 1) := by decide +kernel
theorem dX9_rings_56 : decode cX9_rings 56 = .ok (.iaload, 1) := by decide +kernel
theorem dX9_rings_57 : decode cX9_rings 57 = .ok (.invokestatic 157, 3) := by decide +kernel
theorem dX9_rings_60 : decode cX9_rings 60 = .ok (.istore_n 2, 1) := by decide +kernel
theorem dX9_rings_61 : decode cX9_rings 61 = .ok (.aload_n 0, 1) := by decide +kernel
theorem dX9_rings_62 : decode cX9_rings 62 = .ok (.aload_n 0, 1) := by decide +kernel
theorem dX9_rings_63 : decode cX9_rings 63 = .ok (.getfield 184, 3) := by decide +kernel
theorem dX9_rings_66 : decode cX9_rings 66 = .ok (.ifCond .ne 8, 3) := by decide +kernel
theorem dX9_rings_69 : decode cX9_rings 69 = .ok (.iload_n 2, 1) := by decide +kernel
theorem dX9_rings_70 : decode cX9_rings 70 = .ok (.iconst (-1), 1) := by decide +kernel
theorem dX9_rings_71 : decode cX9_rings 71 = .ok (.if_icmp .ne 7, 3) := by decide +kernel
theorem dX9_rings_74 : decode cX9_rings 74 = .ok (.iconst 1, 1) := by decide +kernel
theorem dX9_rings_75 : decode cX9_rings 75 = .ok (.goto 4, 3) := by decide +kernel
theorem dX9_rings_78 : decode cX9_rings 78 = .ok (.iconst 0, 1) := by decide +kernel
theorem dX9_rings_79 : decode cX9_rings 79 = .ok (.putfield 184, 3) := by decide +kernel
theorem dX9_rings_82 : decode cX9_rings 82 = .ok (.aload_n 0, 1) := by decide +kernel
theorem dX9_rings_83 : decode cX9_rings 83 = .ok (.iload_n 1, 1) := by decide +kernel
theorem dX9_rings_84 : decode cX9_rings 84 = .ok (.invokevirtual 175, 3) := by decide +kernel
theorem dX9_rings_87 : decode cX9_rings 87 = .ok (.ifCond .eq 8, 3) := by decide +kernel
theorem dX9_rings_90 : decode cX9_rings 90 = .ok (.bipush (-9), 2) := by decide +kernel
theorem dX9_rings_92 : decode cX9_rings 92 = .ok (.goto 30, 3) := by decide +kernel
theorem dX9_rings_95 : decode cX9_rings 95 = .ok (.aload_n 0, 1) := by decide +kernel
theorem dX9_rings_96 : decode cX9_rings 96 = .ok (.getfield 7, 3) := by decide +kernel
theorem dX9_rings_99 : decode cX9_rings 99 = .ok (.iconst 2, 1) := by decide +kernel
theorem dX9_rings_100 : decode cX9_rings 100 = .ok (.iload_n 1, 1) := by decide +kernel
theorem dX9_rings_101 : decode cX9_rings 101 = .ok (.iadd, 1) := by decide +kernel
theorem dX9_rings_102 : decode cX9_rings 102 = .ok (.iaload, 1) := by decide +kernel
theorem dX9_rings_103 : decode cX9_rings 103 = .ok (.aload_n 0, 1) := by decide +kernel
theorem dX9_rings_104 : decode cX9_rings 104 = .ok (.getfield 7, 3) := by decide +kernel
theorem dX9_rings_107 : decode cX9_rings 107 = .ok (.bipush 8, 2) := by decide +kernel
theorem dX9_rings_109 : decode cX9_rings 109 = .ok (.iload_n 1, 1) := by decide +kernel
theorem dX9_rings_110 : decode cX9_rings 110 = .ok (.iadd, 1) := by decide +kernel
theorem dX9_rings_111 : decode cX9_rings 111 = .ok (.iaload, 1) := by decide +kernel
theorem dX9_rings_112 : decode cX9_rings 112 = .ok (.iload_n 2, 1) := by decide +kernel
theorem dX9_rings_113 : decode cX9_rings 113 = .ok (.aload_n 0, 1) := by decide +kernel
theorem dX9_rings_114 : decode cX9_rings 114 = .ok (.getfield 7, 3) := by decide +kernel
theorem dX9_rings_117 : decode cX9_rings 117 = .ok (.iconst 1, 1) := by decide +kernel
theorem dX9_rings_118 : decode cX9_rings 118 = .ok (.iaload, 1) := by decide +kernel
theorem dX9_rings_119 : decode cX9_rings 119 = .ok (.invokestatic 160, 3) := by decide +kernel
theorem dX9_rings_122 : decode cX9_rings 122 = .ok (.istore_n 3, 1) := by decide +kernel
theorem dX9_rings_123 : decode cX9_rings 123 = .ok (.aload_n 0, 1) := by decide +kernel
theorem dX9_rings_124 : decode cX9_rings 124 = .ok (.getfield 41, 3) := by decide +kernel
theorem dX9_rings_127 : decode cX9_rings 127 = .ok (.iload_n 1, 1) := by decide +kernel
theorem dX9_rings_128 : decode cX9_rings 128 = .ok (.iload_n 3, 1) := by decide +kernel
theorem dX9_rings_129 : decode cX9_rings 129 = .ok (.bipush (-9), 2) := by decide +kernel
theorem dX9_rings_131 : decode cX9_rings 131 = .ok (.if_icmp .ne 8, 3) := by decide +kernel
theorem dX9_rings_134 : decode cX9_rings 134 = .ok (.bipush (-9), 2) := by decide +kernel
theorem dX9_rings_136 : decode cX9_rings 136 = .ok (.goto 8, 3) := by decide +kernel
theorem dX9_rings_139 : decode cX9_rings 139 = .ok (.iconst 2, 1) := by decide +kernel
theorem dX9_rings_140 : decode cX9_rings 140 = .ok (.iload_n 1, 1) := by decide +kernel
theorem dX9_rings_141 : decode cX9_rings 141 = .ok (.imul, 1) := by decide +kernel
theorem dX9_rings_142 : decode cX9_rings 142 = .ok (.iload_n 3, 1) := by decide +kernel
theorem dX9_rings_143 : decode cX9_rings 143 = .ok (.iadd, 1) := by decide +kernel
theorem dX9_rings_144 : decode cX9_rings 144 = .ok (.iastore, 1) := by decide +kernel
theorem dX9_rings_145 : decode cX9_rings 145 = .ok (.iload_n 3, 1) := by decide +kernel
theorem dX9_rings_146 : decode cX9_rings 146 = .ok (.bipush (-9), 2) := by decide +kernel
theorem dX9_rings_148 : decode cX9_rings 148 = .ok (.if_icmp .eq 77, 3) := by decide +kernel
theorem dX9_rings_151 : decode cX9_rings 151 = .ok (.aload_n 0, 1) := by decide +kernel
theorem dX9_rings_152 : decode cX9_rings 152 = .ok (.getfield 188, 3) := by decide +kernel
theorem dX9_rings_155 : decode cX9_rings 155 = .ok (.istore 4, 2) := by decide +kernel
theorem dX9_rings_157 : decode cX9_rings 157 = .ok (.iload 4, 2) := by decide +kernel
theorem dX9_rings_159 : decode cX9_rings 159 = .ok (.ifCond .le 48, 3) := by decide +kernel
theorem dX9_rings_162 : decode cX9_rings 162 = .ok (.aload_n 0, 1) := by decide +kernel
theorem dX9_rings_163 : decode cX9_rings 163 = .ok (.getfield 41, 3) := by decide +kernel
theorem dX9_rings_166 : decode cX9_rings 166 = .ok (.aload_n 0, 1) := by decide +kernel
theorem dX9_rings_167 : decode cX9_rings 167 = .ok (.getfield 44, 3) := by decide +kernel
theorem dX9_rings_170 : decode cX9_rings 170 = .ok (.iload 4, 2) := by decide +kernel
theorem dX9_rings_172 : decode cX9_rings 172 = .ok (.iconst 1, 1) := by decide +kernel
theorem dX9_rings_173 : decode cX9_rings 173 = .ok (.isub, 1) := by decide +kernel
theorem dX9_rings_174 : decode cX9_rings 174 = .ok (.iaload, 1) := by decide +kernel
theorem dX9_rings_175 : decode cX9_rings 175 = .ok (.iaload, 1) := by decide +kernel
theorem dX9_rings_176 : decode cX9_rings 176 = .ok (.aload_n 0, 1) := by decide +kernel
theorem dX9_rings_177 : decode cX9_rings 177 = .ok (.getfield 41, 3) := by decide +kernel
theorem dX9_rings_180 : decode cX9_rings 180 = .ok (.iload_n 1, 1) := by decide +kernel
theorem dX9_rings_181 : decode cX9_rings 181 = .ok (.iaload, 1) := by decide +kernel
theorem dX9_rings_182 : decode cX9_rings 182 = .ok (.if_icmp .le 25, 3) := by decide +kernel
theorem dX9_rings_185 : decode cX9_rings 185 = .ok (.aload_n 0, 1) := by decide +kernel
theorem dX9_rings_186 : decode cX9_rings 186 = .ok (.getfield 44, 3) := by decide +kernel
theorem dX9_rings_189 : decode cX9_rings 189 = .ok (.iload 4, 2) := by decide +kernel
theorem dX9_rings_191 : decode cX9_rings 191 = .ok (.aload_n 0, 1) := by decide +kernel
theorem dX9_rings_192 : decode cX9_rings 192 = .ok (.getfield 44, 3) := by decide +kernel
theorem dX9_rings_195 : decode cX9_rings 195 = .ok (.iload 4, 2) := by decide +kernel
theorem dX9_rings_197 : decode cX9_rings 197 = .ok (.iconst 1, 1) := by decide +kernel
theorem dX9_rings_198 : decode cX9_rings 198 = .ok (.isub, 1) := by decide +kernel
theorem dX9_rings_199 : decode cX9_rings 199 = .ok (.iaload, 1) := by decide +kernel
theorem dX9_rings_200 : decode cX9_rings 200 = .ok (.iastore, 1) := by decide +kernel
theorem dX9_rings_201 : decode cX9_rings 201 = .ok (.iinc 4 (-1), 3) := by decide +kernel
theorem dX9_rings_204 : decode cX9_rings 204 = .ok (.goto (-47), 3) := by decide +kernel
theorem dX9_rings_207 : decode cX9_rings 207 = .ok (.aload_n 0, 1) := by decide +kernel
theorem dX9_rings_208 : decode cX9_rings 208 = .ok (.getfield 44, 3) := by decide +kernel
theorem dX9_rings_211 : decode cX9_rings 211 = .ok (.iload 4, 2) := by decide +kernel
theorem dX9_rings_213 : decode cX9_rings 213 = .ok (.iload_n 1, 1) := by decide +kernel
theorem dX9_rings_214 : decode cX9_rings 214 = .ok (.iastore, 1) := by decide +kernel
theorem dX9_rings_215 : decode cX9_rings 215 = .ok (.aload_n 0, 1) := by decide +kernel
theorem dX9_rings_216 : decode cX9_rings 216 = .ok (.dup, 1) := by decide +kernel
theorem dX9_rings_217 : decode cX9_rings 217 = .ok (.getfield 188, 3) := by decide +kernel
theorem dX9_rings_220 : decode cX9_rings 220 = .ok (.iconst 1, 1) := by decide +kernel
theorem dX9_rings_221 : decode cX9_rings 221 = .ok (.iadd, 1) := by decide +kernel
theorem dX9_rings_222 : decode cX9_rings 222 = .ok (.putfield 188, 3) := by decide +kernel
theorem dX9_rings_225 : decode cX9_rings 225 = .ok (.iinc 1 1, 3) := by decide +kernel
theorem dX9_rings_228 : decode cX9_rings 228 = .ok (.goto (-216), 3) := by decide +kernel
theorem dX9_rings_231 : decode cX9_rings 231 = .ok (.return_, 1) := by decide +kernel
theorem dX9_laysPulls_0 : decode cX9_laysPulls 0 = .ok (.iconst 0, 1) := by decide +kernel
theorem dX9_laysPulls_1 : decode cX9_laysPulls 1 = .ok (.istore_n 2, 1) := by decide +kernel
theorem dX9_laysPulls_2 : decode cX9_laysPulls 2 = .ok (.iload_n 2, 1) := by decide +kernel
theorem dX9_laysPulls_3 : decode cX9_laysPulls 3 = .ok (.aload_n 0, 1) := by decide +kernel
theorem dX9_laysPulls_4 : decode cX9_laysPulls 4 = .ok (.getfield 7, 3) := by decide +kernel
theorem dX9_laysPulls_7 : decode cX9_laysPulls 7 = .ok (.iconst 0, 1) := by decide +kernel
theorem dX9_laysPulls_8 : decode cX9_laysPulls 8 = .ok (.iaload, 1) := by decide +kernel
theorem dX9_laysPulls_9 : decode cX9_laysPulls 9 = .ok (.if_icmp .ge 26, 3) := by decide +kernel
theorem dX9_laysPulls_12 : decode cX9_laysPulls 12 = .ok (.aload_n 0, 1) := by decide +kernel
theorem dX9_laysPulls_13 : decode cX9_laysPulls 13 = .ok (.getfield 38, 3) := by decide +kernel
theorem dX9_laysPulls_16 : decode cX9_laysPulls 16 = .ok (.iload_n 2, 1) := by decide +kernel
theorem dX9_laysPulls_17 : decode cX9_laysPulls 17 = .ok (.aload_n 0, 1) := by decide +kernel
theorem dX9_laysPulls_18 : decode cX9_laysPulls 18 = .ok (.getfield 16, 3) := by decide +kernel
theorem dX9_laysPulls_21 : decode cX9_laysPulls 21 = .ok (.bipush 40, 2) := by decide +kernel
theorem dX9_laysPulls_23 : decode cX9_laysPulls 23 = .ok (.iload_n 1, 1) := by decide +kernel
theorem dX9_laysPulls_24 : decode cX9_laysPulls 24 = .ok (.imul, 1) := by decide +kernel
theorem dX9_laysPulls_25 : decode cX9_laysPulls 25 = .ok (.iload_n 2, 1) := by decide +kernel
theorem dX9_laysPulls_26 : decode cX9_laysPulls 26 = .ok (.iadd, 1) := by decide +kernel
theorem dX9_laysPulls_27 : decode cX9_laysPulls 27 = .ok (.iaload, 1) := by decide +kernel
theorem dX9_laysPulls_28 : decode cX9_laysPulls 28 = .ok (.iastore, 1) := by decide +kernel
theorem dX9_laysPulls_29 : decode cX9_laysPulls 29 = .ok (.iinc 2 1, 3) := by decide +kernel
theorem dX9_laysPulls_32 : decode cX9_laysPulls 32 = .ok (.goto (-30), 3) := by decide +kernel
theorem dX9_laysPulls_35 : decode cX9_laysPulls 35 = .ok (.aload_n 0, 1) := by decide +kernel
theorem dX9_laysPulls_36 : decode cX9_laysPulls 36 = .ok (.invokevirtual 191, 3) := by decide +kernel
theorem dX9_laysPulls_39 : decode cX9_laysPulls 39 = .ok (.return_, 1) := by decide +kernel
theorem dX9_heardSet_0 : decode cX9_heardSet 0 = .ok (.iconst 0, 1) := by decide +kernel
theorem dX9_heardSet_1 : decode cX9_heardSet 1 = .ok (.istore_n 1, 1) := by decide +kernel
theorem dX9_heardSet_2 : decode cX9_heardSet 2 = .ok (.iconst 0, 1) := by decide +kernel
theorem dX9_heardSet_3 : decode cX9_heardSet 3 = .ok (.istore_n 2, 1) := by decide +kernel
theorem dX9_heardSet_4 : decode cX9_heardSet 4 = .ok (.iload_n 2, 1) := by decide +kernel
theorem dX9_heardSet_5 : decode cX9_heardSet 5 = .ok (.aload_n 0, 1) := by decide +kernel
theorem dX9_heardSet_6 : decode cX9_heardSet 6 = .ok (.getfield 188, 3) := by decide +kernel
theorem dX9_heardSet_9 : decode cX9_heardSet 9 = .ok (.if_icmp .ge 20, 3) := by decide +kernel
theorem dX9_heardSet_12 : decode cX9_heardSet 12 = .ok (.iload_n 1, 1) := by decide +kernel
theorem dX9_heardSet_13 : decode cX9_heardSet 13 = .ok (.iconst 1, 1) := by decide +kernel
theorem dX9_heardSet_14 : decode cX9_heardSet 14 = .ok (.aload_n 0, 1) := by decide +kernel
theorem dX9_heardSet_15 : decode cX9_heardSet 15 = .ok (.getfield 44, 3) := by decide +kernel
theorem dX9_heardSet_18 : decode cX9_heardSet 18 = .ok (.iload_n 2, 1) := by decide +kernel
theorem dX9_heardSet_19 : decode cX9_heardSet 19 = .ok (.iaload, 1) := by decide +kernel
theorem dX9_heardSet_20 : decode cX9_heardSet 20 = .ok (.ishl, 1) := by decide +kernel
theorem dX9_heardSet_21 : decode cX9_heardSet 21 = .ok (.ior, 1) := by decide +kernel
theorem dX9_heardSet_22 : decode cX9_heardSet 22 = .ok (.istore_n 1, 1) := by decide +kernel
theorem dX9_heardSet_23 : decode cX9_heardSet 23 = .ok (.iinc 2 1, 3) := by decide +kernel
theorem dX9_heardSet_26 : decode cX9_heardSet 26 = .ok (.goto (-22), 3) := by decide +kernel
theorem dX9_heardSet_29 : decode cX9_heardSet 29 = .ok (.iload_n 1, 1) := by decide +kernel
theorem dX9_heardSet_30 : decode cX9_heardSet 30 = .ok (.ireturn, 1) := by decide +kernel
theorem dX9_gap_0 : decode cX9_gap 0 = .ok (.aload_n 0, 1) := by decide +kernel
theorem dX9_gap_1 : decode cX9_gap 1 = .ok (.getfield 41, 3) := by decide +kernel
theorem dX9_gap_4 : decode cX9_gap 4 = .ok (.aload_n 0, 1) := by decide +kernel
theorem dX9_gap_5 : decode cX9_gap 5 = .ok (.getfield 44, 3) := by decide +kernel
theorem dX9_gap_8 : decode cX9_gap 8 = .ok (.iload_n 1, 1) := by decide +kernel
theorem dX9_gap_9 : decode cX9_gap 9 = .ok (.iaload, 1) := by decide +kernel
theorem dX9_gap_10 : decode cX9_gap 10 = .ok (.iaload, 1) := by decide +kernel
theorem dX9_gap_11 : decode cX9_gap 11 = .ok (.aload_n 0, 1) := by decide +kernel
theorem dX9_gap_12 : decode cX9_gap 12 = .ok (.getfield 41, 3) := by decide +kernel
theorem dX9_gap_15 : decode cX9_gap 15 = .ok (.aload_n 0, 1) := by decide +kernel
theorem dX9_gap_16 : decode cX9_gap 16 = .ok (.getfield 44, 3) := by decide +kernel
theorem dX9_gap_19 : decode cX9_gap 19 = .ok (.iload_n 1, 1) := by decide +kernel
theorem dX9_gap_20 : decode cX9_gap 20 = .ok (.iconst 1, 1) := by decide +kernel
theorem dX9_gap_21 : decode cX9_gap 21 = .ok (.isub, 1) := by decide +kernel
theorem dX9_gap_22 : decode cX9_gap 22 = .ok (.iaload, 1) := by decide +kernel
theorem dX9_gap_23 : decode cX9_gap 23 = .ok (.iaload, 1) := by decide +kernel
theorem dX9_gap_24 : decode cX9_gap 24 = .ok (.isub, 1) := by decide +kernel
theorem dX9_gap_25 : decode cX9_gap 25 = .ok (.ireturn, 1) := by decide +kernel
theorem dX9_errorNow_0 : decode cX9_errorNow 0 = .ok (.iconst 0, 1) := by decide +kernel
theorem dX9_errorNow_1 : decode cX9_errorNow 1 = .ok (.istore_n 1, 1) := by decide +kernel
theorem dX9_errorNow_2 : decode cX9_errorNow 2 = .ok (.iconst 1, 1) := by decide +kernel
theorem dX9_errorNow_3 : decode cX9_errorNow 3 = .ok (.istore_n 2, 1) := by decide +kernel
theorem dX9_errorNow_4 : decode cX9_errorNow 4 = .ok (.iload_n 2, 1) := by decide +kernel
theorem dX9_errorNow_5 : decode cX9_errorNow 5 = .ok (.aload_n 0, 1) := by decide +kernel
theorem dX9_errorNow_6 : decode cX9_errorNow 6 = .ok (.getfield 188, 3) := by decide +kernel
theorem dX9_errorNow_9 : decode cX9_errorNow 9 = .ok (.if_icmp .ge 38, 3) := by decide +kernel
theorem dX9_errorNow_12 : decode cX9_errorNow 12 = .ok (.iload_n 1, 1) := by decide +kernel
theorem dX9_errorNow_13 : decode cX9_errorNow 13 = .ok (.aload_n 0, 1) := by decide +kernel
theorem dX9_errorNow_14 : decode cX9_errorNow 14 = .ok (.iload_n 2, 1) := by decide +kernel
theorem dX9_errorNow_15 : decode cX9_errorNow 15 = .ok (.invokevirtual 194, 3) := by decide +kernel
theorem dX9_errorNow_18 : decode cX9_errorNow 18 = .ok (.iconst 2, 1) := by decide +kernel
theorem dX9_errorNow_19 : decode cX9_errorNow 19 = .ok (.if_icmp .le 13, 3) := by decide +kernel
theorem dX9_errorNow_22 : decode cX9_errorNow 22 = .ok (.aload_n 0, 1) := by decide +kernel
theorem dX9_errorNow_23 : decode cX9_errorNow 23 = .ok (.iload_n 2, 1) := by decide +kernel
theorem dX9_errorNow_24 : decode cX9_errorNow 24 = .ok (.invokevirtual 194, 3) := by decide +kernel
theorem dX9_errorNow_27 : decode cX9_errorNow 27 = .ok (.iconst 2, 1) := by decide +kernel
theorem dX9_errorNow_28 : decode cX9_errorNow 28 = .ok (.isub, 1) := by decide +kernel
theorem dX9_errorNow_29 : decode cX9_errorNow 29 = .ok (.goto 10, 3) := by decide +kernel
theorem dX9_errorNow_32 : decode cX9_errorNow 32 = .ok (.iconst 2, 1) := by decide +kernel
theorem dX9_errorNow_33 : decode cX9_errorNow 33 = .ok (.aload_n 0, 1) := by decide +kernel
theorem dX9_errorNow_34 : decode cX9_errorNow 34 = .ok (.iload_n 2, 1) := by decide +kernel
theorem dX9_errorNow_35 : decode cX9_errorNow 35 = .ok (.invokevirtual 194, 3) := by decide +kernel
theorem dX9_errorNow_38 : decode cX9_errorNow 38 = .ok (.isub, 1) := by decide +kernel
theorem dX9_errorNow_39 : decode cX9_errorNow 39 = .ok (.iadd, 1) := by decide +kernel
theorem dX9_errorNow_40 : decode cX9_errorNow 40 = .ok (.istore_n 1, 1) := by decide +kernel
theorem dX9_errorNow_41 : decode cX9_errorNow 41 = .ok (.iinc 2 1, 3) := by decide +kernel
theorem dX9_errorNow_44 : decode cX9_errorNow 44 = .ok (.goto (-40), 3) := by decide +kernel
theorem dX9_errorNow_47 : decode cX9_errorNow 47 = .ok (.iload_n 1, 1) := by decide +kernel
theorem dX9_errorNow_48 : decode cX9_errorNow 48 = .ok (.ireturn, 1) := by decide +kernel
theorem dX9_round_0 : decode cX9_round 0 = .ok (.aload_n 0, 1) := by decide +kernel
theorem dX9_round_1 : decode cX9_round 1 = .ok (.iload_n 1, 1) := by decide +kernel
theorem dX9_round_2 : decode cX9_round 2 = .ok (.invokevirtual 197, 3) := by decide +kernel
theorem dX9_round_5 : decode cX9_round 5 = .ok (.istore_n 2, 1) := by decide +kernel
theorem dX9_round_6 : decode cX9_round 6 = .ok (.iload_n 2, 1) := by decide +kernel
theorem dX9_round_7 : decode cX9_round 7 = .ok (.ifCond .ge 5, 3) := by decide +kernel
theorem dX9_round_10 : decode cX9_round 10 = .ok (.iload_n 2, 1) := by decide +kernel
theorem dX9_round_11 : decode cX9_round 11 = .ok (.ireturn, 1) := by decide +kernel
theorem dX9_round_12 : decode cX9_round 12 = .ok (.aload_n 0, 1) := by decide +kernel
theorem dX9_round_13 : decode cX9_round 13 = .ok (.getfield 142, 3) := by decide +kernel
theorem dX9_round_16 : decode cX9_round 16 = .ok (.bipush 40, 2) := by decide +kernel
theorem dX9_round_18 : decode cX9_round 18 = .ok (.if_icmp .ne 6, 3) := by decide +kernel
theorem dX9_round_21 : decode cX9_round 21 = .ok (.bipush (-2), 2) := by decide +kernel
theorem dX9_round_23 : decode cX9_round 23 = .ok (.ireturn, 1) := by decide +kernel
theorem dX9_round_24 : decode cX9_round 24 = .ok (.aload_n 0, 1) := by decide +kernel
theorem dX9_round_25 : decode cX9_round 25 = .ok (.iload_n 1, 1) := by decide +kernel
theorem dX9_round_26 : decode cX9_round 26 = .ok (.invokevirtual 200, 3) := by decide +kernel
theorem dX9_round_29 : decode cX9_round 29 = .ok (.aload_n 0, 1) := by decide +kernel
theorem dX9_round_30 : decode cX9_round 30 = .ok (.invokevirtual 178, 3) := by decide +kernel
theorem dX9_round_33 : decode cX9_round 33 = .ok (.iconst 0, 1) := by decide +kernel
theorem dX9_round_34 : decode cX9_round 34 = .ok (.istore_n 3, 1) := by decide +kernel
theorem dX9_round_35 : decode cX9_round 35 = .ok (.iload_n 3, 1) := by decide +kernel
theorem dX9_round_36 : decode cX9_round 36 = .ok (.aload_n 0, 1) := by decide +kernel
theorem dX9_round_37 : decode cX9_round 37 = .ok (.getfield 7, 3) := by decide +kernel
theorem dX9_round_40 : decode cX9_round 40 = .ok (.iconst 0, 1) := by decide +kernel
theorem dX9_round_41 : decode cX9_round 41 = .ok (.iaload, 1) := by decide +kernel
theorem dX9_round_42 : decode cX9_round 42 = .ok (.if_icmp .ge 28, 3) := by decide +kernel
theorem dX9_round_45 : decode cX9_round 45 = .ok (.aload_n 0, 1) := by decide +kernel
theorem dX9_round_46 : decode cX9_round 46 = .ok (.iload_n 3, 1) := by decide +kernel
theorem dX9_round_47 : decode cX9_round 47 = .ok (.invokevirtual 175, 3) := by decide +kernel
theorem dX9_round_50 : decode cX9_round 50 = .ok (.ifCond .ne 14, 3) := by decide +kernel
theorem dX9_round_53 : decode cX9_round 53 = .ok (.aload_n 0, 1) := by decide +kernel
theorem dX9_round_54 : decode cX9_round 54 = .ok (.iload_n 3, 1) := by decide +kernel
theorem dX9_round_55 : decode cX9_round 55 = .ok (.aload_n 0, 1) := by decide +kernel
theorem dX9_round_56 : decode cX9_round 56 = .ok (.getfield 38, 3) := by decide +kernel
theorem dX9_round_59 : decode cX9_round 59 = .ok (.iload_n 3, 1) := by decide +kernel
theorem dX9_round_60 : decode cX9_round 60 = .ok (.iaload, 1) := by decide +kernel
theorem dX9_round_61 : decode cX9_round 61 = .ok (.invokevirtual 181, 3) := by decide +kernel
theorem dX9_round_64 : decode cX9_round 64 = .ok (.iinc 3 1, 3) := by decide +kernel
theorem dX9_round_67 : decode cX9_round 67 = .ok (.goto (-32), 3) := by decide +kernel
theorem dX9_round_70 : decode cX9_round 70 = .ok (.aload_n 0, 1) := by decide +kernel
theorem dX9_round_71 : decode cX9_round 71 = .ok (.invokevirtual 203, 3) := by decide +kernel
theorem dX9_round_74 : decode cX9_round 74 = .ok (.ireturn, 1) := by decide +kernel
theorem dX9_mend_0 : decode cX9_mend 0 = .ok (.aload_n 0, 1) := by decide +kernel
theorem dX9_mend_1 : decode cX9_mend 1 = .ok (.iload_n 1, 1) := by decide +kernel
theorem dX9_mend_2 : decode cX9_mend 2 = .ok (.invokevirtual 145, 3) := by decide +kernel
theorem dX9_mend_5 : decode cX9_mend 5 = .ok (.ifCond .ne 5, 3) := by decide +kernel
theorem dX9_mend_8 : decode cX9_mend 8 = .ok (.iconst (-1), 1) := by decide +kernel
theorem dX9_mend_9 : decode cX9_mend 9 = .ok (.ireturn, 1) := by decide +kernel
theorem dX9_mend_10 : decode cX9_mend 10 = .ok (.aload_n 0, 1) := by decide +kernel
theorem dX9_mend_11 : decode cX9_mend 11 = .ok (.iload_n 1, 1) := by decide +kernel
theorem dX9_mend_12 : decode cX9_mend 12 = .ok (.invokevirtual 175, 3) := by decide +kernel
theorem dX9_mend_15 : decode cX9_mend 15 = .ok (.ifCond .ne 6, 3) := by decide +kernel
theorem dX9_mend_18 : decode cX9_mend 18 = .ok (.bipush (-4), 2) := by decide +kernel
theorem dX9_mend_20 : decode cX9_mend 20 = .ok (.ireturn, 1) := by decide +kernel
theorem dX9_mend_21 : decode cX9_mend 21 = .ok (.aload_n 0, 1) := by decide +kernel
theorem dX9_mend_22 : decode cX9_mend 22 = .ok (.getfield 142, 3) := by decide +kernel
theorem dX9_mend_25 : decode cX9_mend 25 = .ok (.bipush 40, 2) := by decide +kernel
theorem dX9_mend_27 : decode cX9_mend 27 = .ok (.if_icmp .ne 6, 3) := by decide +kernel
theorem dX9_mend_30 : decode cX9_mend 30 = .ok (.bipush (-2), 2) := by decide +kernel
theorem dX9_mend_32 : decode cX9_mend 32 = .ok (.ireturn, 1) := by decide +kernel
theorem dX9_mend_33 : decode cX9_mend 33 = .ok (.aload_n 0, 1) := by decide +kernel
theorem dX9_mend_34 : decode cX9_mend 34 = .ok (.invokevirtual 178, 3) := by decide +kernel
theorem dX9_mend_37 : decode cX9_mend 37 = .ok (.aload_n 0, 1) := by decide +kernel
theorem dX9_mend_38 : decode cX9_mend 38 = .ok (.getfield 7, 3) := by decide +kernel
theorem dX9_mend_41 : decode cX9_mend 41 = .ok (.bipush 20, 2) := by decide +kernel
theorem dX9_mend_43 : decode cX9_mend 43 = .ok (.iload_n 1, 1) := by decide +kernel
theorem dX9_mend_44 : decode cX9_mend 44 = .ok (.iadd, 1) := by decide +kernel
theorem dX9_mend_45 : decode cX9_mend 45 = .ok (.iconst 0, 1) := by decide +kernel
theorem dX9_mend_46 : decode cX9_mend 46 = .ok (.iastore, 1) := by decide +kernel
theorem dX9_mend_47 : decode cX9_mend 47 = .ok (.iconst 1, 1) := by decide +kernel
theorem dX9_mend_48 : decode cX9_mend 48 = .ok (.ireturn, 1) := by decide +kernel
theorem dX9_undo_0 : decode cX9_undo 0 = .ok (.iload_n 1, 1) := by decide +kernel
theorem dX9_undo_1 : decode cX9_undo 1 = .ok (.i2l, 1) := by decide +kernel
theorem dX9_undo_2 : decode cX9_undo 2 = .ok (.lconst 0, 1) := by decide +kernel
theorem dX9_undo_3 : decode cX9_undo 3 = .ok (.aload_n 0, 1) := by decide +kernel
theorem dX9_undo_4 : decode cX9_undo 4 = .ok (.getfield 142, 3) := by decide +kernel
theorem dX9_undo_7 : decode cX9_undo 7 = .ok (.i2l, 1) := by decide +kernel
theorem dX9_undo_8 : decode cX9_undo 8 = .ok (.invokestatic 83, 3) := by decide +kernel
theorem dX9_undo_11 : decode cX9_undo 11 = .ok (.ifCond .ne 5, 3) := by decide +kernel
theorem dX9_undo_14 : decode cX9_undo 14 = .ok (.iconst (-1), 1) := by decide +kernel
theorem dX9_undo_15 : decode cX9_undo 15 = .ok (.ireturn, 1) := by decide +kernel
theorem dX9_undo_16 : decode cX9_undo 16 = .ok (.aload_n 0, 1) := by decide +kernel
theorem dX9_undo_17 : decode cX9_undo 17 = .ok (.getfield 142, 3) := by decide +kernel
theorem dX9_undo_20 : decode cX9_undo 20 = .ok (.iload_n 1, 1) := by decide +kernel
theorem dX9_undo_21 : decode cX9_undo 21 = .ok (.isub, 1) := by decide +kernel
theorem dX9_undo_22 : decode cX9_undo 22 = .ok (.istore_n 2, 1) := by decide +kernel
theorem dX9_undo_23 : decode cX9_undo 23 = .ok (.iload_n 2, 1) := by decide +kernel
theorem dX9_undo_24 : decode cX9_undo 24 = .ok (.ifCond .le 35, 3) := by decide +kernel
theorem dX9_undo_27 : decode cX9_undo 27 = .ok (.aload_n 0, 1) := by decide +kernel
theorem dX9_undo_28 : decode cX9_undo 28 = .ok (.getfield 7, 3) := by decide +kernel
theorem dX9_undo_31 : decode cX9_undo 31 = .ok (.iconst 1, 1) := by decide +kernel
theorem dX9_undo_32 : decode cX9_undo 32 = .ok (.iaload, 1) := by decide +kernel
theorem dX9_undo_33 : decode cX9_undo 33 = .ok (.istore_n 3, 1) := by decide +kernel
theorem dX9_undo_34 : decode cX9_undo 34 = .ok (.aload_n 0, 1) := by decide +kernel
theorem dX9_undo_35 : decode cX9_undo 35 = .ok (.bipush 32, 2) := by decide +kernel
theorem dX9_undo_37 : decode cX9_undo 37 = .ok (.iload_n 1, 1) := by decide +kernel
theorem dX9_undo_38 : decode cX9_undo 38 = .ok (.iconst 1, 1) := by decide +kernel
theorem dX9_undo_39 : decode cX9_undo 39 = .ok (.iadd, 1) := by decide +kernel
theorem dX9_undo_40 : decode cX9_undo 40 = .ok (.imul, 1) := by decide +kernel
theorem dX9_undo_41 : decode cX9_undo 41 = .ok (.iconst 0, 1) := by decide +kernel
theorem dX9_undo_42 : decode cX9_undo 42 = .ok (.bipush 32, 2) := by decide +kernel
theorem dX9_undo_44 : decode cX9_undo 44 = .ok (.invokevirtual 138, 3) := by decide +kernel
theorem dX9_undo_47 : decode cX9_undo 47 = .ok (.aload_n 0, 1) := by decide +kernel
theorem dX9_undo_48 : decode cX9_undo 48 = .ok (.getfield 7, 3) := by decide +kernel
theorem dX9_undo_51 : decode cX9_undo 51 = .ok (.iconst 1, 1) := by decide +kernel
theorem dX9_undo_52 : decode cX9_undo 52 = .ok (.iload_n 3, 1) := by decide +kernel
theorem dX9_undo_53 : decode cX9_undo 53 = .ok (.iastore, 1) := by decide +kernel
theorem dX9_undo_54 : decode cX9_undo 54 = .ok (.aload_n 0, 1) := by decide +kernel
theorem dX9_undo_55 : decode cX9_undo 55 = .ok (.iload_n 1, 1) := by decide +kernel
theorem dX9_undo_56 : decode cX9_undo 56 = .ok (.putfield 142, 3) := by decide +kernel
theorem dX9_undo_59 : decode cX9_undo 59 = .ok (.iload_n 2, 1) := by decide +kernel
theorem dX9_undo_60 : decode cX9_undo 60 = .ok (.ireturn, 1) := by decide +kernel
theorem dX9_keep_0 : decode cX9_keep 0 = .ok (.iload_n 1, 1) := by decide +kernel
theorem dX9_keep_1 : decode cX9_keep 1 = .ok (.i2l, 1) := by decide +kernel
theorem dX9_keep_2 : decode cX9_keep 2 = .ok (.lconst 0, 1) := by decide +kernel
theorem dX9_keep_3 : decode cX9_keep 3 = .ok (.ldc2_w 207, 3) := by decide +kernel
theorem dX9_keep_6 : decode cX9_keep 6 = .ok (.invokestatic 83, 3) := by decide +kernel
theorem dX9_keep_9 : decode cX9_keep 9 = .ok (.ifCond .ne 5, 3) := by decide +kernel
theorem dX9_keep_12 : decode cX9_keep 12 = .ok (.iconst (-1), 1) := by decide +kernel
theorem dX9_keep_13 : decode cX9_keep 13 = .ok (.ireturn, 1) := by decide +kernel
theorem dX9_keep_14 : decode cX9_keep 14 = .ok (.aload_n 0, 1) := by decide +kernel
theorem dX9_keep_15 : decode cX9_keep 15 = .ok (.getfield 7, 3) := by decide +kernel
theorem dX9_keep_18 : decode cX9_keep 18 = .ok (.iconst 0, 1) := by decide +kernel
theorem dX9_keep_19 : decode cX9_keep 19 = .ok (.iaload, 1) := by decide +kernel
theorem dX9_keep_20 : decode cX9_keep 20 = .ok (.ifCond .ne 6, 3) := by decide +kernel
theorem dX9_keep_23 : decode cX9_keep 23 = .ok (.bipush (-4), 2) := by decide +kernel
theorem dX9_keep_25 : decode cX9_keep 25 = .ok (.ireturn, 1) := by decide +kernel
theorem dX9_keep_26 : decode cX9_keep 26 = .ok (.aload_n 0, 1) := by decide +kernel
theorem dX9_keep_27 : decode cX9_keep 27 = .ok (.iconst 0, 1) := by decide +kernel
theorem dX9_keep_28 : decode cX9_keep 28 = .ok (.sipush 1312, 3) := by decide +kernel
theorem dX9_keep_31 : decode cX9_keep 31 = .ok (.iload_n 1, 1) := by decide +kernel
theorem dX9_keep_32 : decode cX9_keep 32 = .ok (.iconst 1, 1) := by decide +kernel
theorem dX9_keep_33 : decode cX9_keep 33 = .ok (.iadd, 1) := by decide +kernel
theorem dX9_keep_34 : decode cX9_keep 34 = .ok (.imul, 1) := by decide +kernel
theorem dX9_keep_35 : decode cX9_keep 35 = .ok (.sipush 1312, 3) := by decide +kernel
theorem dX9_keep_38 : decode cX9_keep 38 = .ok (.invokevirtual 138, 3) := by decide +kernel
theorem dX9_keep_41 : decode cX9_keep 41 = .ok (.aload_n 0, 1) := by decide +kernel
theorem dX9_keep_42 : decode cX9_keep 42 = .ok (.getfield 13, 3) := by decide +kernel
theorem dX9_keep_45 : decode cX9_keep 45 = .ok (.iload_n 1, 1) := by decide +kernel
theorem dX9_keep_46 : decode cX9_keep 46 = .ok (.aload_n 0, 1) := by decide +kernel
theorem dX9_keep_47 : decode cX9_keep 47 = .ok (.getfield 142, 3) := by decide +kernel
theorem dX9_keep_50 : decode cX9_keep 50 = .ok (.iastore, 1) := by decide +kernel
theorem dX9_keep_51 : decode cX9_keep 51 = .ok (.aload_n 0, 1) := by decide +kernel
theorem dX9_keep_52 : decode cX9_keep 52 = .ok (.getfield 142, 3) := by decide +kernel
theorem dX9_keep_55 : decode cX9_keep 55 = .ok (.ireturn, 1) := by decide +kernel
theorem dX9_on_0 : decode cX9_on 0 = .ok (.iload_n 1, 1) := by decide +kernel
theorem dX9_on_1 : decode cX9_on 1 = .ok (.i2l, 1) := by decide +kernel
theorem dX9_on_2 : decode cX9_on 2 = .ok (.lconst 0, 1) := by decide +kernel
theorem dX9_on_3 : decode cX9_on 3 = .ok (.ldc2_w 207, 3) := by decide +kernel
theorem dX9_on_6 : decode cX9_on 6 = .ok (.invokestatic 83, 3) := by decide +kernel
theorem dX9_on_9 : decode cX9_on 9 = .ok (.ifCond .ne 5, 3) := by decide +kernel
theorem dX9_on_12 : decode cX9_on 12 = .ok (.iconst (-1), 1) := by decide +kernel
theorem dX9_on_13 : decode cX9_on 13 = .ok (.ireturn, 1) := by decide +kernel
theorem dX9_on_14 : decode cX9_on 14 = .ok (.aload_n 0, 1) := by decide +kernel
theorem dX9_on_15 : decode cX9_on 15 = .ok (.getfield 13, 3) := by decide +kernel
theorem dX9_on_18 : decode cX9_on 18 = .ok (.iload_n 1, 1) := by decide +kernel
theorem dX9_on_19 : decode cX9_on 19 = .ok (.iaload, 1) := by decide +kernel
theorem dX9_on_20 : decode cX9_on 20 = .ok (.ifCond .ge 9, 3) := by decide +kernel
theorem dX9_on_23 : decode cX9_on 23 = .ok (.aload_n 0, 1) := by decide +kernel
theorem dX9_on_24 : decode cX9_on 24 = .ok (.iconst 1, 1) := by decide +kernel
theorem dX9_on_25 : decode cX9_on 25 = .ok (.invokevirtual 93, 3) := by decide +kernel
theorem dX9_on_28 : decode cX9_on 28 = .ok (.ireturn, 1) := by decide +kernel
theorem dX9_on_29 : decode cX9_on 29 = .ok (.aload_n 0, 1) := by decide +kernel
theorem dX9_on_30 : decode cX9_on 30 = .ok (.sipush 1312, 3) := by decide +kernel
theorem dX9_on_33 : decode cX9_on 33 = .ok (.iload_n 1, 1) := by decide +kernel
theorem dX9_on_34 : decode cX9_on 34 = .ok (.iconst 1, 1) := by decide +kernel
theorem dX9_on_35 : decode cX9_on 35 = .ok (.iadd, 1) := by decide +kernel
theorem dX9_on_36 : decode cX9_on 36 = .ok (.imul, 1) := by decide +kernel
theorem dX9_on_37 : decode cX9_on 37 = .ok (.iconst 0, 1) := by decide +kernel
theorem dX9_on_38 : decode cX9_on 38 = .ok (.sipush 1312, 3) := by decide +kernel
theorem dX9_on_41 : decode cX9_on 41 = .ok (.invokevirtual 138, 3) := by decide +kernel
theorem dX9_on_44 : decode cX9_on 44 = .ok (.aload_n 0, 1) := by decide +kernel
theorem dX9_on_45 : decode cX9_on 45 = .ok (.aload_n 0, 1) := by decide +kernel
theorem dX9_on_46 : decode cX9_on 46 = .ok (.getfield 13, 3) := by decide +kernel
theorem dX9_on_49 : decode cX9_on 49 = .ok (.iload_n 1, 1) := by decide +kernel
theorem dX9_on_50 : decode cX9_on 50 = .ok (.iaload, 1) := by decide +kernel
theorem dX9_on_51 : decode cX9_on 51 = .ok (.putfield 142, 3) := by decide +kernel
theorem dX9_on_54 : decode cX9_on 54 = .ok (.aload_n 0, 1) := by decide +kernel
theorem dX9_on_55 : decode cX9_on 55 = .ok (.getfield 142, 3) := by decide +kernel
theorem dX9_on_58 : decode cX9_on 58 = .ok (.ireturn, 1) := by decide +kernel
theorem dX9_strikes_0 : decode cX9_strikes 0 = .ok (.aload_n 0, 1) := by decide +kernel
theorem dX9_strikes_1 : decode cX9_strikes 1 = .ok (.iload_n 1, 1) := by decide +kernel
theorem dX9_strikes_2 : decode cX9_strikes 2 = .ok (.invokevirtual 145, 3) := by decide +kernel
theorem dX9_strikes_5 : decode cX9_strikes 5 = .ok (.ifCond .eq 10, 3) := by decide +kernel
theorem dX9_strikes_8 : decode cX9_strikes 8 = .ok (.iload_n 2, 1) := by decide +kernel
theorem dX9_strikes_9 : decode cX9_strikes 9 = .ok (.invokestatic 172, 3) := by decide +kernel
theorem dX9_strikes_12 : decode cX9_strikes 12 = .ok (.ifCond .ne 5, 3) := by decide +kernel
theorem dX9_strikes_15 : decode cX9_strikes 15 = .ok (.iconst (-1), 1) := by decide +kernel
theorem dX9_strikes_16 : decode cX9_strikes 16 = .ok (.ireturn, 1) := by decide +kernel
theorem dX9_strikes_17 : decode cX9_strikes 17 = .ok (.aload_n 0, 1) := by decide +kernel
theorem dX9_strikes_18 : decode cX9_strikes 18 = .ok (.iload_n 1, 1) := by decide +kernel
theorem dX9_strikes_19 : decode cX9_strikes 19 = .ok (.invokevirtual 175, 3) := by decide +kernel
theorem dX9_strikes_22 : decode cX9_strikes 22 = .ok (.ifCond .eq 8, 3) := by decide +kernel
theorem dX9_strikes_25 : decode cX9_strikes 25 = .ok (.bipush (-4), 2) := by decide +kernel
theorem dX9_strikes_27 : decode cX9_strikes 27 = .ok (.goto 18, 3) := by decide +kernel
theorem dX9_strikes_30 : decode cX9_strikes 30 = .ok (.aload_n 0, 1) := by decide +kernel
theorem dX9_strikes_31 : decode cX9_strikes 31 = .ok (.iload_n 1, 1) := by decide +kernel
theorem dX9_strikes_32 : decode cX9_strikes 32 = .ok (.aload_n 0, 1) := by decide +kernel
theorem dX9_strikes_33 : decode cX9_strikes 33 = .ok (.getfield 7, 3) := by decide +kernel
theorem dX9_strikes_36 : decode cX9_strikes 36 = .ok (.bipush 14, 2) := by decide +kernel
theorem dX9_strikes_38 : decode cX9_strikes 38 = .ok (.iload_n 1, 1) := by decide +kernel
theorem dX9_strikes_39 : decode cX9_strikes 39 = .ok (.iadd, 1) := by decide +kernel
theorem dX9_strikes_40 : decode cX9_strikes 40 = .ok (.iaload, 1) := by decide +kernel
theorem dX9_strikes_41 : decode cX9_strikes 41 = .ok (.iload_n 2, 1) := by decide +kernel
theorem dX9_strikes_42 : decode cX9_strikes 42 = .ok (.invokevirtual 164, 3) := by decide +kernel
theorem dX9_strikes_45 : decode cX9_strikes 45 = .ok (.ireturn, 1) := by decide +kernel
theorem dX9_stands_0 : decode cX9_stands 0 = .ok (.aload_n 0, 1) := by decide +kernel
theorem dX9_stands_1 : decode cX9_stands 1 = .ok (.iload_n 1, 1) := by decide +kernel
theorem dX9_stands_2 : decode cX9_stands 2 = .ok (.invokevirtual 145, 3) := by decide +kernel
theorem dX9_stands_5 : decode cX9_stands 5 = .ok (.ifCond .ne 5, 3) := by decide +kernel
theorem dX9_stands_8 : decode cX9_stands 8 = .ok (.iconst (-1), 1) := by decide +kernel
theorem dX9_stands_9 : decode cX9_stands 9 = .ok (.ireturn, 1) := by decide +kernel
theorem dX9_stands_10 : decode cX9_stands 10 = .ok (.aload_n 0, 1) := by decide +kernel
theorem dX9_stands_11 : decode cX9_stands 11 = .ok (.iload_n 1, 1) := by decide +kernel
theorem dX9_stands_12 : decode cX9_stands 12 = .ok (.invokevirtual 175, 3) := by decide +kernel
theorem dX9_stands_15 : decode cX9_stands 15 = .ok (.ifCond .eq 6, 3) := by decide +kernel
theorem dX9_stands_18 : decode cX9_stands 18 = .ok (.bipush (-4), 2) := by decide +kernel
theorem dX9_stands_20 : decode cX9_stands 20 = .ok (.ireturn, 1) := by decide +kernel
theorem dX9_stands_21 : decode cX9_stands 21 = .ok (.iconst 0, 1) := by decide +kernel
theorem dX9_stands_22 : decode cX9_stands 22 = .ok (.istore_n 2, 1) := by decide +kernel
theorem dX9_stands_23 : decode cX9_stands 23 = .ok (.iconst 0, 1) := by decide +kernel
theorem dX9_stands_24 : decode cX9_stands 24 = .ok (.istore_n 3, 1) := by decide +kernel
theorem dX9_stands_25 : decode cX9_stands 25 = .ok (.iconst 0, 1) := by decide +kernel
theorem dX9_stands_26 : decode cX9_stands 26 = .ok (.istore 4, 2) := by decide +kernel
theorem dX9_stands_28 : decode cX9_stands 28 = .ok (.iload 4, 2) := by decide +kernel
theorem dX9_stands_30 : decode cX9_stands 30 = .ok (.bipush 7, 2) := by decide +kernel
theorem dX9_stands_32 : decode cX9_stands 32 = .ok (.if_icmp .ge 68, 3) := by decide +kernel
theorem dX9_stands_35 : decode cX9_stands 35 = .ok (.aload_n 0, 1) := by decide +kernel
theorem dX9_stands_36 : decode cX9_stands 36 = .ok (.getfield 7, 3) := by decide +kernel
theorem dX9_stands_39 : decode cX9_stands 39 = .ok (.iconst 2, 1) := by decide +kernel
theorem dX9_stands_40 : decode cX9_stands 40 = .ok (.iload_n 1, 1) := by decide +kernel
theorem dX9_stands_41 : decode cX9_stands 41 = .ok (.iadd, 1) := by decide +kernel
theorem dX9_stands_42 : decode cX9_stands 42 = .ok (.iaload, 1) := by decide +kernel
theorem dX9_stands_43 : decode cX9_stands 43 = .ok (.aload_n 0, 1) := by decide +kernel
theorem dX9_stands_44 : decode cX9_stands 44 = .ok (.getfield 7, 3) := by decide +kernel
theorem dX9_stands_47 : decode cX9_stands 47 = .ok (.bipush 14, 2) := by decide +kernel
theorem dX9_stands_49 : decode cX9_stands 49 = .ok (.iload_n 1, 1) := by decide +kernel
theorem dX9_stands_50 : decode cX9_stands 50 = .ok (.iadd, 1) := by decide +kernel
theorem dX9_stands_51 : decode cX9_stands 51 = .ok (.iaload, 1) := by decide +kernel
theorem dX9_stands_52 : decode cX9_stands 52 = .ok (.iload 4, 2) := by decide +kernel
theorem dX9_stands_54 : decode cX9_stands 54 = .ok (.invokestatic 157, 3) := by decide +kernel
theorem dX9_stands_57 : decode cX9_stands 57 = .ok (.istore 5, 2) := by decide +kernel
theorem dX9_stands_59 : decode cX9_stands 59 = .ok (.iload_n 2, 1) := by decide +kernel
theorem dX9_stands_60 : decode cX9_stands 60 = .ok (.iload 5, 2) := by decide +kernel
theorem dX9_stands_62 : decode cX9_stands 62 = .ok (.bipush 20, 2) := by decide +kernel
theorem dX9_stands_64 : decode cX9_stands 64 = .ok (.if_icmp .ne 10, 3) := by decide +kernel
theorem dX9_stands_67 : decode cX9_stands 67 = .ok (.iconst 1, 1) := by decide +kernel
theorem dX9_stands_68 : decode cX9_stands 68 = .ok (.iload 4, 2) := by decide +kernel
theorem dX9_stands_70 : decode cX9_stands 70 = .ok (.ishl, 1) := by decide +kernel
theorem dX9_stands_71 : decode cX9_stands 71 = .ok (.goto 4, 3) := by decide +kernel
theorem dX9_stands_74 : decode cX9_stands 74 = .ok (.iconst 0, 1) := by decide +kernel
theorem dX9_stands_75 : decode cX9_stands 75 = .ok (.ior, 1) := by decide +kernel
theorem dX9_stands_76 : decode cX9_stands 76 = .ok (.istore_n 2, 1) := by decide +kernel
theorem dX9_stands_77 : decode cX9_stands 77 = .ok (.iload_n 3, 1) := by decide +kernel
theorem dX9_stands_78 : decode cX9_stands 78 = .ok (.iload 5, 2) := by decide +kernel
theorem dX9_stands_80 : decode cX9_stands 80 = .ok (.iconst (-1), 1) := by decide +kernel
theorem dX9_stands_81 : decode cX9_stands 81 = .ok (.if_icmp .ne 10, 3) := by decide +kernel
theorem dX9_stands_84 : decode cX9_stands 84 = .ok (.iconst 1, 1) := by decide +kernel
theorem dX9_stands_85 : decode cX9_stands 85 = .ok (.iload 4, 2) := by decide +kernel
theorem dX9_stands_87 : decode cX9_stands 87 = .ok (.ishl, 1) := by decide +kernel
theorem dX9_stands_88 : decode cX9_stands 88 = .ok (.goto 4, 3) := by decide +kernel
theorem dX9_stands_91 : decode cX9_stands 91 = .ok (.iconst 0, 1) := by decide +kernel
theorem dX9_stands_92 : decode cX9_stands 92 = .ok (.ior, 1) := by decide +kernel
theorem dX9_stands_93 : decode cX9_stands 93 = .ok (.istore_n 3, 1) := by decide +kernel
theorem dX9_stands_94 : decode cX9_stands 94 = .ok (.iinc 4 1, 3) := by decide +kernel
theorem dX9_stands_97 : decode cX9_stands 97 = .ok (.goto (-69), 3) := by decide +kernel
theorem dX9_stands_100 : decode cX9_stands 100 = .ok (.aload_n 0, 1) := by decide +kernel
theorem dX9_stands_101 : decode cX9_stands 101 = .ok (.iload_n 3, 1) := by decide +kernel
theorem dX9_stands_102 : decode cX9_stands 102 = .ok (.iload_n 2, 1) := by decide +kernel
theorem dX9_stands_103 : decode cX9_stands 103 = .ok (.invokevirtual 105, 3) := by decide +kernel
theorem dX9_stands_106 : decode cX9_stands 106 = .ok (.ireturn, 1) := by decide +kernel
theorem dX9_layStands_0 : decode cX9_layStands 0 = .ok (.iconst 0, 1) := by decide +kernel
theorem dX9_layStands_1 : decode cX9_layStands 1 = .ok (.istore_n 2, 1) := by decide +kernel
theorem dX9_layStands_2 : decode cX9_layStands 2 = .ok (.iload_n 2, 1) := by decide +kernel
theorem dX9_layStands_3 : decode cX9_layStands 3 = .ok (.bipush 30, 2) := by decide +kernel
theorem dX9_layStands_5 : decode cX9_layStands 5 = .ok (.if_icmp .gt 117, 3) := by decide +kernel
theorem dX9_layStands_8 : decode cX9_layStands 8 = .ok (.iconst 0, 1) := by decide +kernel
theorem dX9_layStands_9 : decode cX9_layStands 9 = .ok (.istore_n 3, 1) := by decide +kernel
theorem dX9_layStands_10 : decode cX9_layStands 10 = .ok (.iload_n 3, 1) := by decide +kernel
theorem dX9_layStands_11 : decode cX9_layStands 11 = .ok (.bipush 20, 2) := by decide +kernel
theorem dX9_layStands_13 : decode cX9_layStands 13 = .ok (.if_icmp .gt 103, 3) := by decide +kernel
theorem dX9_layStands_16 : decode cX9_layStands 16 = .ok (.iload_n 2, 1) := by decide +kernel
theorem dX9_layStands_17 : decode cX9_layStands 17 = .ok (.ifCond .ne 13, 3) := by decide +kernel
theorem dX9_layStands_20 : decode cX9_layStands 20 = .ok (.iload_n 3, 1) := by decide +kernel
theorem dX9_layStands_21 : decode cX9_layStands 21 = .ok (.bipush 20, 2) := by decide +kernel
theorem dX9_layStands_23 : decode cX9_layStands 23 = .ok (.if_icmp .ne 7, 3) := by decide +kernel
theorem dX9_layStands_26 : decode cX9_layStands 26 = .ok (.iconst 1, 1) := by decide +kernel
theorem dX9_layStands_27 : decode cX9_layStands 27 = .ok (.goto 4, 3) := by decide +kernel
theorem dX9_layStands_30 : decode cX9_layStands 30 = .ok (.iconst 0, 1) := by decide +kernel
theorem dX9_layStands_31 : decode cX9_layStands 31 = .ok (.istore 4, 2) := by decide +kernel
theorem dX9_layStands_33 : decode cX9_layStands 33 = .ok (.iconst 0, 1) := by decide +kernel
theorem dX9_layStands_34 : decode cX9_layStands 34 = .ok (.istore 5, 2) := by decide +kernel
theorem dX9_layStands_36 : decode cX9_layStands 36 = .ok (.iload 5, 2) := by decide +kernel
theorem dX9_layStands_38 : decode cX9_layStands 38 = .ok (.bipush 7, 2) := by decide +kernel
theorem dX9_layStands_40 : decode cX9_layStands 40 = .ok (.if_icmp .ge 57, 3) := by decide +kernel
theorem dX9_layStands_43 : decode cX9_layStands 43 = .ok (.iload_n 2, 1) := by decide +kernel
theorem dX9_layStands_44 : decode cX9_layStands 44 = .ok (.ifCond .le 53, 3) := by decide +kernel
theorem dX9_layStands_47 : decode cX9_layStands 47 = .ok (.iload_n 1, 1) := by decide +kernel
theorem dX9_layStands_48 : decode cX9_layStands 48 = .ok (.iload_n 3, 1) := by decide +kernel
theorem dX9_layStands_49 : decode cX9_layStands 49 = .ok (.iload 5, 2) := by decide +kernel
theorem dX9_layStands_51 : decode cX9_layStands 51 = .ok (.invokestatic 157, 3) := by decide +kernel
theorem dX9_layStands_54 : decode cX9_layStands 54 = .ok (.istore 6, 2) := by decide +kernel
theorem dX9_layStands_56 : decode cX9_layStands 56 = .ok (.iload 4, 2) := by decide +kernel
theorem dX9_layStands_58 : decode cX9_layStands 58 = .ok (.ifCond .ne 26, 3) := by decide +kernel
theorem dX9_layStands_61 : decode cX9_layStands 61 = .ok (.iload 6, 2) := by decide +kernel
theorem dX9_layStands_63 : decode cX9_layStands 63 = .ok (.iconst (-1), 1) := by decide +kernel
theorem dX9_layStands_64 : decode cX9_layStands 64 = .ok (.if_icmp .eq 24, 3) := by decide +kernel
theorem dX9_layStands_67 : decode cX9_layStands 67 = .ok (.aload_n 0, 1) := by decide +kernel
theorem dX9_layStands_68 : decode cX9_layStands 68 = .ok (.getfield 47, 3) := by decide +kernel
theorem dX9_layStands_71 : decode cX9_layStands 71 = .ok (.bipush 21, 2) := by decide +kernel
theorem dX9_layStands_73 : decode cX9_layStands 73 = .ok (.iload_n 2, 1) := by decide +kernel
theorem dX9_layStands_74 : decode cX9_layStands 74 = .ok (.iconst 1, 1) := by decide +kernel
theorem dX9_layStands_75 : decode cX9_layStands 75 = .ok (.isub, 1) := by decide +kernel
theorem dX9_layStands_76 : decode cX9_layStands 76 = .ok (.imul, 1) := by decide +kernel
theorem dX9_layStands_77 : decode cX9_layStands 77 = .ok (.iload 6, 2) := by decide +kernel
theorem dX9_layStands_79 : decode cX9_layStands 79 = .ok (.iadd, 1) := by decide +kernel
theorem dX9_layStands_80 : decode cX9_layStands 80 = .ok (.baload, 1) := by decide +kernel
theorem dX9_layStands_81 : decode cX9_layStands 81 = .ok (.ifCond .eq 7, 3) := by decide +kernel
theorem dX9_layStands_84 : decode cX9_layStands 84 = .ok (.iconst 1, 1) := by decide +kernel
theorem dX9_layStands_85 : decode cX9_layStands 85 = .ok (.goto 4, 3) := by decide +kernel
theorem dX9_layStands_88 : decode cX9_layStands 88 = .ok (.iconst 0, 1) := by decide +kernel
theorem dX9_layStands_89 : decode cX9_layStands 89 = .ok (.istore 4, 2) := by decide +kernel
theorem dX9_layStands_91 : decode cX9_layStands 91 = .ok (.iinc 5 1, 3) := by decide +kernel
theorem dX9_layStands_94 : decode cX9_layStands 94 = .ok (.goto (-58), 3) := by decide +kernel
theorem dX9_layStands_97 : decode cX9_layStands 97 = .ok (.aload_n 0, 1) := by decide +kernel
theorem dX9_layStands_98 : decode cX9_layStands 98 = .ok (.getfield 47, 3) := by decide +kernel
theorem dX9_layStands_101 : decode cX9_layStands 101 = .ok (.bipush 21, 2) := by decide +kernel
theorem dX9_layStands_103 : decode cX9_layStands 103 = .ok (.iload_n 2, 1) := by decide +kernel
theorem dX9_layStands_104 : decode cX9_layStands 104 = .ok (.imul, 1) := by decide +kernel
theorem dX9_layStands_105 : decode cX9_layStands 105 = .ok (.iload_n 3, 1) := by decide +kernel
theorem dX9_layStands_106 : decode cX9_layStands 106 = .ok (.iadd, 1) := by decide +kernel
theorem dX9_layStands_107 : decode cX9_layStands 107 = .ok (.iload 4, 2) := by decide +kernel
theorem dX9_layStands_109 : decode cX9_layStands 109 = .ok (.bastore, 1) := by decide +kernel
theorem dX9_layStands_110 : decode cX9_layStands 110 = .ok (.iinc 3 1, 3) := by decide +kernel
theorem dX9_layStands_113 : decode cX9_layStands 113 = .ok (.goto (-103), 3) := by decide +kernel
theorem dX9_layStands_116 : decode cX9_layStands 116 = .ok (.iinc 2 1, 3) := by decide +kernel
theorem dX9_layStands_119 : decode cX9_layStands 119 = .ok (.goto (-117), 3) := by decide +kernel
theorem dX9_layStands_122 : decode cX9_layStands 122 = .ok (.return_, 1) := by decide +kernel
theorem dX9_raise_0 : decode cX9_raise 0 = .ok (.aload_n 0, 1) := by decide +kernel
theorem dX9_raise_1 : decode cX9_raise 1 = .ok (.iload_n 1, 1) := by decide +kernel
theorem dX9_raise_2 : decode cX9_raise 2 = .ok (.invokevirtual 145, 3) := by decide +kernel
theorem dX9_raise_5 : decode cX9_raise 5 = .ok (.ifCond .eq 10, 3) := by decide +kernel
theorem dX9_raise_8 : decode cX9_raise 8 = .ok (.iload_n 2, 1) := by decide +kernel
theorem dX9_raise_9 : decode cX9_raise 9 = .ok (.invokestatic 89, 3) := by decide +kernel
theorem dX9_raise_12 : decode cX9_raise 12 = .ok (.ifCond .ne 5, 3) := by decide +kernel
theorem dX9_raise_15 : decode cX9_raise 15 = .ok (.iconst (-1), 1) := by decide +kernel
theorem dX9_raise_16 : decode cX9_raise 16 = .ok (.ireturn, 1) := by decide +kernel
theorem dX9_raise_17 : decode cX9_raise 17 = .ok (.aload_n 0, 1) := by decide +kernel
theorem dX9_raise_18 : decode cX9_raise 18 = .ok (.iload_n 1, 1) := by decide +kernel
theorem dX9_raise_19 : decode cX9_raise 19 = .ok (.invokevirtual 175, 3) := by decide +kernel
theorem dX9_raise_22 : decode cX9_raise 22 = .ok (.ifCond .eq 6, 3) := by decide +kernel
theorem dX9_raise_25 : decode cX9_raise 25 = .ok (.bipush (-4), 2) := by decide +kernel
theorem dX9_raise_27 : decode cX9_raise 27 = .ok (.ireturn, 1) := by decide +kernel
theorem dX9_raise_28 : decode cX9_raise 28 = .ok (.aload_n 0, 1) := by decide +kernel
theorem dX9_raise_29 : decode cX9_raise 29 = .ok (.getfield 7, 3) := by decide +kernel
theorem dX9_raise_32 : decode cX9_raise 32 = .ok (.iconst 2, 1) := by decide +kernel
theorem dX9_raise_33 : decode cX9_raise 33 = .ok (.iload_n 1, 1) := by decide +kernel
theorem dX9_raise_34 : decode cX9_raise 34 = .ok (.iadd, 1) := by decide +kernel
theorem dX9_raise_35 : decode cX9_raise 35 = .ok (.iaload, 1) := by decide +kernel
theorem dX9_raise_36 : decode cX9_raise 36 = .ok (.istore_n 3, 1) := by decide +kernel
theorem dX9_raise_37 : decode cX9_raise 37 = .ok (.aload_n 0, 1) := by decide +kernel
theorem dX9_raise_38 : decode cX9_raise 38 = .ok (.iload_n 3, 1) := by decide +kernel
theorem dX9_raise_39 : decode cX9_raise 39 = .ok (.invokevirtual 209, 3) := by decide +kernel
theorem dX9_raise_42 : decode cX9_raise 42 = .ok (.aload_n 0, 1) := by decide +kernel
theorem dX9_raise_43 : decode cX9_raise 43 = .ok (.getfield 7, 3) := by decide +kernel
theorem dX9_raise_46 : decode cX9_raise 46 = .ok (.bipush 14, 2) := by decide +kernel
theorem dX9_raise_48 : decode cX9_raise 48 = .ok (.iload_n 1, 1) := by decide +kernel
theorem dX9_raise_49 : decode cX9_raise 49 = .ok (.iadd, 1) := by decide +kernel
theorem dX9_raise_50 : decode cX9_raise 50 = .ok (.iaload, 1) := by decide +kernel
theorem dX9_raise_51 : decode cX9_raise 51 = .ok (.istore 4, 2) := by decide +kernel
theorem dX9_raise_53 : decode cX9_raise 53 = .ok (.iconst 0, 1) := by decide +kernel
theorem dX9_raise_54 : decode cX9_raise 54 = .ok (.istore 5, 2) := by decide +kernel
theorem dX9_raise_56 : decode cX9_raise 56 = .ok (.iload 5, 2) := by decide +kernel
theorem dX9_raise_58 : decode cX9_raise 58 = .ok (.bipush 30, 2) := by decide +kernel
theorem dX9_raise_60 : decode cX9_raise 60 = .ok (.if_icmp .gt 25, 3) := by decide +kernel
theorem dX9_raise_63 : decode cX9_raise 63 = .ok (.aload_n 0, 1) := by decide +kernel
theorem dX9_raise_64 : decode cX9_raise 64 = .ok (.getfield 47, 3) := by decide +kernel
theorem dX9_raise_67 : decode cX9_raise 67 = .ok (.bipush 21, 2) := by decide +kernel
theorem dX9_raise_69 : decode cX9_raise 69 = .ok (.iload 5, 2) := by decide +kernel
theorem dX9_raise_71 : decode cX9_raise 71 = .ok (.imul, 1) := by decide +kernel
theorem dX9_raise_72 : decode cX9_raise 72 = .ok (.iload 4, 2) := by decide +kernel
theorem dX9_raise_74 : decode cX9_raise 74 = .ok (.iadd, 1) := by decide +kernel
theorem dX9_raise_75 : decode cX9_raise 75 = .ok (.baload, 1) := by decide +kernel
theorem dX9_raise_76 : decode cX9_raise 76 = .ok (.ifCond .ne 9, 3) := by decide +kernel
theorem dX9_raise_79 : decode cX9_raise 79 = .ok (.iinc 5 1, 3) := by decide +kernel
theorem dX9_raise_82 : decode cX9_raise 82 = .ok (.goto (-26), 3) := by decide +kernel
theorem dX9_raise_85 : decode cX9_raise 85 = .ok (.iload 5, 2) := by decide +kernel
theorem dX9_raise_87 : decode cX9_raise 87 = .ok (.bipush 30, 2) := by decide +kernel
theorem dX9_raise_89 : decode cX9_raise 89 = .ok (.if_icmp .le 6, 3) := by decide +kernel
theorem dX9_raise_92 : decode cX9_raise 92 = .ok (.bipush (-9), 2) := by decide +kernel
theorem dX9_raise_94 : decode cX9_raise 94 = .ok (.ireturn, 1) := by decide +kernel
theorem dX9_raise_95 : decode cX9_raise 95 = .ok (.aload_n 0, 1) := by decide +kernel
theorem dX9_raise_96 : decode cX9_raise 96 = .ok (.iload_n 2, 1) := by decide +kernel
theorem dX9_raise_97 : decode cX9_raise 97 = .ok (.iload 5, 2) := by decide +kernel
theorem dX9_raise_99 : decode cX9_raise 99 = .ok (.invokevirtual 97, 3) := by decide +kernel
theorem dX9_raise_102 : decode cX9_raise 102 = .ok (.iconst 0, 1) := by decide +kernel
theorem dX9_raise_103 : decode cX9_raise 103 = .ok (.istore 6, 2) := by decide +kernel
theorem dX9_raise_105 : decode cX9_raise 105 = .ok (.iload 6, 2) := by decide +kernel
theorem dX9_raise_107 : decode cX9_raise 107 = .ok (.iload 5, 2) := by decide +kernel
theorem dX9_raise_109 : decode cX9_raise 109 = .ok (.if_icmp .ge 82, 3) := by decide +kernel
theorem dX9_raise_112 : decode cX9_raise 112 = .ok (.iconst 0, 1) := by decide +kernel
theorem dX9_raise_113 : decode cX9_raise 113 = .ok (.istore 7, 2) := by decide +kernel
theorem dX9_raise_115 : decode cX9_raise 115 = .ok (.iload_n 3, 1) := by decide +kernel
theorem dX9_raise_116 : decode cX9_raise 116 = .ok (.iload 4, 2) := by decide +kernel
theorem dX9_raise_118 : decode cX9_raise 118 = .ok (.iconst 0, 1) := by decide +kernel
theorem dX9_raise_119 : decode cX9_raise 119 = .ok (.invokestatic 157, 3) := by decide +kernel
theorem dX9_raise_122 : decode cX9_raise 122 = .ok (.istore 8, 2) := by decide +kernel
theorem dX9_raise_124 : decode cX9_raise 124 = .ok (.iload 8, 2) := by decide +kernel
theorem dX9_raise_126 : decode cX9_raise 126 = .ok (.iconst (-1), 1) := by decide +kernel
theorem dX9_raise_127 : decode cX9_raise 127 = .ok (.if_icmp .eq 24, 3) := by decide +kernel
theorem dX9_raise_130 : decode cX9_raise 130 = .ok (.aload_n 0, 1) := by decide +kernel
theorem dX9_raise_131 : decode cX9_raise 131 = .ok (.getfield 47, 3) := by decide +kernel
theorem dX9_raise_134 : decode cX9_raise 134 = .ok (.bipush 21, 2) := by decide +kernel
theorem dX9_raise_136 : decode cX9_raise 136 = .ok (.iload 5, 2) := by decide +kernel
theorem dX9_raise_138 : decode cX9_raise 138 = .ok (.iload 6, 2) := by decide +kernel
theorem dX9_raise_140 : decode cX9_raise 140 = .ok (.isub, 1) := by decide +kernel
theorem dX9_raise_141 : decode cX9_raise 141 = .ok (.iconst 1, 1) := by decide +kernel
theorem dX9_raise_142 : decode cX9_raise 142 = .ok (.isub, 1) := by decide +kernel
theorem dX9_raise_143 : decode cX9_raise 143 = .ok (.imul, 1) := by decide +kernel
theorem dX9_raise_144 : decode cX9_raise 144 = .ok (.iload 8, 2) := by decide +kernel
theorem dX9_raise_146 : decode cX9_raise 146 = .ok (.iadd, 1) := by decide +kernel
theorem dX9_raise_147 : decode cX9_raise 147 = .ok (.baload, 1) := by decide +kernel
theorem dX9_raise_148 : decode cX9_raise 148 = .ok (.ifCond .ne 19, 3) := by decide +kernel
theorem dX9_raise_151 : decode cX9_raise 151 = .ok (.iinc 7 1, 3) := by decide +kernel
theorem dX9_raise_154 : decode cX9_raise 154 = .ok (.iload_n 3, 1) := by decide +kernel
theorem dX9_raise_155 : decode cX9_raise 155 = .ok (.iload 4, 2) := by decide +kernel
theorem dX9_raise_157 : decode cX9_raise 157 = .ok (.iload 7, 2) := by decide +kernel
theorem dX9_raise_159 : decode cX9_raise 159 = .ok (.invokestatic 157, 3) := by decide +kernel
theorem dX9_raise_162 : decode cX9_raise 162 = .ok (.istore 8, 2) := by decide +kernel
theorem dX9_raise_164 : decode cX9_raise 164 = .ok (.goto (-40), 3) := by decide +kernel
theorem dX9_raise_167 : decode cX9_raise 167 = .ok (.aload_n 0, 1) := by decide +kernel
theorem dX9_raise_168 : decode cX9_raise 168 = .ok (.getfield 16, 3) := by decide +kernel
theorem dX9_raise_171 : decode cX9_raise 171 = .ok (.bipush 40, 2) := by decide +kernel
theorem dX9_raise_173 : decode cX9_raise 173 = .ok (.iload_n 2, 1) := by decide +kernel
theorem dX9_raise_174 : decode cX9_raise 174 = .ok (.imul, 1) := by decide +kernel
theorem dX9_raise_175 : decode cX9_raise 175 = .ok (.iload 6, 2) := by decide +kernel
theorem dX9_raise_177 : decode cX9_raise 177 = .ok (.iadd, 1) := by decide +kernel
theorem dX9_raise_178 : decode cX9_raise 178 = .ok (.iload 7, 2) := by decide +kernel
theorem dX9_raise_180 : decode cX9_raise 180 = .ok (.iastore, 1) := by decide +kernel
theorem dX9_raise_181 : decode cX9_raise 181 = .ok (.iload 8, 2) := by decide +kernel
theorem dX9_raise_183 : decode cX9_raise 183 = .ok (.istore 4, 2) := by decide +kernel
theorem dX9_raise_185 : decode cX9_raise 185 = .ok (.iinc 6 1, 3) := by decide +kernel
theorem dX9_raise_188 : decode cX9_raise 188 = .ok (.goto (-83), 3) := by decide +kernel
theorem dX9_raise_191 : decode cX9_raise 191 = .ok (.iload 5, 2) := by decide +kernel
theorem dX9_raise_193 : decode cX9_raise 193 = .ok (.ireturn, 1) := by decide +kernel
theorem dX9_ways_0 : decode cX9_ways 0 = .ok (.aload_n 0, 1) := by decide +kernel
theorem dX9_ways_1 : decode cX9_ways 1 = .ok (.iload_n 1, 1) := by decide +kernel
theorem dX9_ways_2 : decode cX9_ways 2 = .ok (.invokevirtual 145, 3) := by decide +kernel
theorem dX9_ways_5 : decode cX9_ways 5 = .ok (.ifCond .eq 15, 3) := by decide +kernel
theorem dX9_ways_8 : decode cX9_ways 8 = .ok (.iload_n 2, 1) := by decide +kernel
theorem dX9_ways_9 : decode cX9_ways 9 = .ok (.i2l, 1) := by decide +kernel
theorem dX9_ways_10 : decode cX9_ways 10 = .ok (.lconst 0, 1) := by decide +kernel
theorem dX9_ways_11 : decode cX9_ways 11 = .ok (.ldc2_w 212, 3) := by decide +kernel
theorem dX9_ways_14 : decode cX9_ways 14 = .ok (.invokestatic 83, 3) := by decide +kernel
theorem dX9_ways_17 : decode cX9_ways 17 = .ok (.ifCond .ne 5, 3) := by decide +kernel
theorem dX9_ways_20 : decode cX9_ways 20 = .ok (.iconst (-1), 1) := by decide +kernel
theorem dX9_ways_21 : decode cX9_ways 21 = .ok (.ireturn, 1) := by decide +kernel
theorem dX9_ways_22 : decode cX9_ways 22 = .ok (.aload_n 0, 1) := by decide +kernel
theorem dX9_ways_23 : decode cX9_ways 23 = .ok (.iload_n 1, 1) := by decide +kernel
theorem dX9_ways_24 : decode cX9_ways 24 = .ok (.invokevirtual 175, 3) := by decide +kernel
theorem dX9_ways_27 : decode cX9_ways 27 = .ok (.ifCond .eq 6, 3) := by decide +kernel
theorem dX9_ways_30 : decode cX9_ways 30 = .ok (.bipush (-4), 2) := by decide +kernel
theorem dX9_ways_32 : decode cX9_ways 32 = .ok (.ireturn, 1) := by decide +kernel
theorem dX9_ways_33 : decode cX9_ways 33 = .ok (.iconst 0, 1) := by decide +kernel
theorem dX9_ways_34 : decode cX9_ways 34 = .ok (.istore_n 3, 1) := by decide +kernel
theorem dX9_ways_35 : decode cX9_ways 35 = .ok (.iload_n 3, 1) := by decide +kernel
theorem dX9_ways_36 : decode cX9_ways 36 = .ok (.iload_n 2, 1) := by decide +kernel
theorem dX9_ways_37 : decode cX9_ways 37 = .ok (.if_icmp .gt 123, 3) := by decide +kernel
theorem dX9_ways_40 : decode cX9_ways 40 = .ok (.iconst 0, 1) := by decide +kernel
theorem dX9_ways_41 : decode cX9_ways 41 = .ok (.istore 4, 2) := by decide +kernel
theorem dX9_ways_43 : decode cX9_ways 43 = .ok (.iload 4, 2) := by decide +kernel
theorem dX9_ways_45 : decode cX9_ways 45 = .ok (.bipush 20, 2) := by decide +kernel
theorem dX9_ways_47 : decode cX9_ways 47 = .ok (.if_icmp .gt 107, 3) := by decide +kernel
theorem dX9_ways_50 : decode cX9_ways 50 = .ok (.iload_n 3, 1) := by decide +kernel
theorem dX9_ways_51 : decode cX9_ways 51 = .ok (.ifCond .ne 14, 3) := by decide +kernel
theorem dX9_ways_54 : decode cX9_ways 54 = .ok (.iload 4, 2) := by decide +kernel
theorem dX9_ways_56 : decode cX9_ways 56 = .ok (.bipush 20, 2) := by decide +kernel
theorem dX9_ways_58 : decode cX9_ways 58 = .ok (.if_icmp .ne 7, 3) := by decide +kernel
theorem dX9_ways_61 : decode cX9_ways 61 = .ok (.lconst 1, 1) := by decide +kernel
theorem dX9_ways_62 : decode cX9_ways 62 = .ok (.goto 4, 3) := by decide +kernel
theorem dX9_ways_65 : decode cX9_ways 65 = .ok (.lconst 0, 1) := by decide +kernel
theorem dX9_ways_66 : decode cX9_ways 66 = .ok (.lstore 5, 2) := by decide +kernel
theorem dX9_ways_68 : decode cX9_ways 68 = .ok (.iconst 0, 1) := by decide +kernel
theorem dX9_ways_69 : decode cX9_ways 69 = .ok (.istore 7, 2) := by decide +kernel
theorem dX9_ways_71 : decode cX9_ways 71 = .ok (.iload 7, 2) := by decide +kernel
theorem dX9_ways_73 : decode cX9_ways 73 = .ok (.bipush 7, 2) := by decide +kernel
theorem dX9_ways_75 : decode cX9_ways 75 = .ok (.if_icmp .ge 59, 3) := by decide +kernel
theorem dX9_ways_78 : decode cX9_ways 78 = .ok (.iload_n 3, 1) := by decide +kernel
theorem dX9_ways_79 : decode cX9_ways 79 = .ok (.ifCond .le 55, 3) := by decide +kernel
theorem dX9_ways_82 : decode cX9_ways 82 = .ok (.aload_n 0, 1) := by decide +kernel
theorem dX9_ways_83 : decode cX9_ways 83 = .ok (.getfield 7, 3) := by decide +kernel
theorem dX9_ways_86 : decode cX9_ways 86 = .ok (.iconst 2, 1) := by decide +kernel
theorem dX9_ways_87 : decode cX9_ways 87 = .ok (.iload_n 1, 1) := by decide +kernel
theorem dX9_ways_88 : decode cX9_ways 88 = .ok (.iadd, 1) := by decide +kernel
theorem dX9_ways_89 : decode cX9_ways 89 = .ok (.iaload, 1) := by decide +kernel
theorem dX9_ways_90 : decode cX9_ways 90 = .ok (.iload 4, 2) := by decide +kernel
theorem dX9_ways_92 : decode cX9_ways 92 = .ok (.iload 7, 2) := by decide +kernel
theorem dX9_ways_94 : decode cX9_ways 94 = .ok (.invokestatic 157, 3) := by decide +kernel
theorem dX9_ways_97 : decode cX9_ways 97 = .ok (.istore 8, 2) := by decide +kernel
theorem dX9_ways_99 : decode cX9_ways 99 = .ok (.lload 5, 2) := by decide +kernel
theorem dX9_ways_101 : decode cX9_ways 101 = .ok (.iload 8, 2) := by decide +kernel
theorem dX9_ways_103 : decode cX9_ways 103 = .ok (.iconst (-1), 1) := by decide +kernel
theorem dX9_ways_104 : decode cX9_ways 104 = .ok (.if_icmp .ne 7, 3) := by decide +kernel
theorem dX9_ways_107 : decode cX9_ways 107 = .ok (.lconst 0, 1) := by decide +kernel
theorem dX9_ways_108 : decode cX9_ways 108 = .ok (.goto 17, 3) := by decide +kernel
theorem dX9_ways_111 : decode cX9_ways 111 = .ok (.aload_n 0, 1) := by decide +kernel
theorem dX9_ways_112 : decode cX9_ways 112 = .ok (.getfield 54, 3) := by decide +kernel
theorem dX9_ways_115 : decode cX9_ways 115 = .ok (.bipush 21, 2) := by decide +kernel
theorem dX9_ways_117 : decode cX9_ways 117 = .ok (.iload_n 3, 1) := by decide +kernel
theorem dX9_ways_118 : decode cX9_ways 118 = .ok (.iconst 1, 1) := by decide +kernel
theorem dX9_ways_119 : decode cX9_ways 119 = .ok (.isub, 1) := by decide +kernel
theorem dX9_ways_120 : decode cX9_ways 120 = .ok (.imul, 1) := by decide +kernel
theorem dX9_ways_121 : decode cX9_ways 121 = .ok (.iload 8, 2) := by decide +kernel
theorem dX9_ways_123 : decode cX9_ways 123 = .ok (.iadd, 1) := by decide +kernel
theorem dX9_ways_124 : decode cX9_ways 124 = .ok (.laload, 1) := by decide +kernel
theorem dX9_ways_125 : decode cX9_ways 125 = .ok (.ladd, 1) := by decide +kernel
theorem dX9_ways_126 : decode cX9_ways 126 = .ok (.lstore 5, 2) := by decide +kernel
theorem dX9_ways_128 : decode cX9_ways 128 = .ok (.iinc 7 1, 3) := by decide +kernel
theorem dX9_ways_131 : decode cX9_ways 131 = .ok (.goto (-60), 3) := by decide +kernel
theorem dX9_ways_134 : decode cX9_ways 134 = .ok (.aload_n 0, 1) := by decide +kernel
theorem dX9_ways_135 : decode cX9_ways 135 = .ok (.getfield 54, 3) := by decide +kernel
theorem dX9_ways_138 : decode cX9_ways 138 = .ok (.bipush 21, 2) := by decide +kernel
theorem dX9_ways_140 : decode cX9_ways 140 = .ok (.iload_n 3, 1) := by decide +kernel
theorem dX9_ways_141 : decode cX9_ways 141 = .ok (.imul, 1) := by decide +kernel
theorem dX9_ways_142 : decode cX9_ways 142 = .ok (.iload 4, 2) := by decide +kernel
theorem dX9_ways_144 : decode cX9_ways 144 = .ok (.iadd, 1) := by decide +kernel
theorem dX9_ways_145 : decode cX9_ways 145 = .ok (.lload 5, 2) := by decide +kernel
theorem dX9_ways_147 : decode cX9_ways 147 = .ok (.lastore, 1) := by decide +kernel
theorem dX9_ways_148 : decode cX9_ways 148 = .ok (.iinc 4 1, 3) := by decide +kernel
theorem dX9_ways_151 : decode cX9_ways 151 = .ok (.goto (-108), 3) := by decide +kernel
theorem dX9_ways_154 : decode cX9_ways 154 = .ok (.iinc 3 1, 3) := by decide +kernel
theorem dX9_ways_157 : decode cX9_ways 157 = .ok (.goto (-122), 3) := by decide +kernel
theorem dX9_ways_160 : decode cX9_ways 160 = .ok (.aload_n 0, 1) := by decide +kernel
theorem dX9_ways_161 : decode cX9_ways 161 = .ok (.aload_n 0, 1) := by decide +kernel
theorem dX9_ways_162 : decode cX9_ways 162 = .ok (.getfield 54, 3) := by decide +kernel
theorem dX9_ways_165 : decode cX9_ways 165 = .ok (.bipush 21, 2) := by decide +kernel
theorem dX9_ways_167 : decode cX9_ways 167 = .ok (.iload_n 2, 1) := by decide +kernel
theorem dX9_ways_168 : decode cX9_ways 168 = .ok (.imul, 1) := by decide +kernel
theorem dX9_ways_169 : decode cX9_ways 169 = .ok (.aload_n 0, 1) := by decide +kernel
theorem dX9_ways_170 : decode cX9_ways 170 = .ok (.getfield 7, 3) := by decide +kernel
theorem dX9_ways_173 : decode cX9_ways 173 = .ok (.bipush 14, 2) := by decide +kernel
theorem dX9_ways_175 : decode cX9_ways 175 = .ok (.iload_n 1, 1) := by decide +kernel
theorem dX9_ways_176 : decode cX9_ways 176 = .ok (.iadd, 1) := by decide +kernel
theorem dX9_ways_177 : decode cX9_ways 177 = .ok (.iaload, 1) := by decide +kernel
theorem dX9_ways_178 : decode cX9_ways 178 = .ok (.iadd, 1) := by decide +kernel
theorem dX9_ways_179 : decode cX9_ways 179 = .ok (.laload, 1) := by decide +kernel
theorem dX9_ways_180 : decode cX9_ways 180 = .ok (.putfield 214, 3) := by decide +kernel
theorem dX9_ways_183 : decode cX9_ways 183 = .ok (.aload_n 0, 1) := by decide +kernel
theorem dX9_ways_184 : decode cX9_ways 184 = .ok (.lconst 1, 1) := by decide +kernel
theorem dX9_ways_185 : decode cX9_ways 185 = .ok (.putfield 34, 3) := by decide +kernel
theorem dX9_ways_188 : decode cX9_ways 188 = .ok (.iconst 1, 1) := by decide +kernel
theorem dX9_ways_189 : decode cX9_ways 189 = .ok (.ireturn, 1) := by decide +kernel
theorem dX9_arms_0 : decode cX9_arms 0 = .ok (.aload_n 0, 1) := by decide +kernel
theorem dX9_arms_1 : decode cX9_arms 1 = .ok (.iload_n 1, 1) := by decide +kernel
theorem dX9_arms_2 : decode cX9_arms 2 = .ok (.invokevirtual 145, 3) := by decide +kernel
theorem dX9_arms_5 : decode cX9_arms 5 = .ok (.ifCond .eq 35, 3) := by decide +kernel
theorem dX9_arms_8 : decode cX9_arms 8 = .ok (.iload_n 2, 1) := by decide +kernel
theorem dX9_arms_9 : decode cX9_arms 9 = .ok (.i2l, 1) := by decide +kernel
theorem dX9_arms_10 : decode cX9_arms 10 = .ok (.lconst 0, 1) := by decide +kernel
theorem dX9_arms_11 : decode cX9_arms 11 = .ok (.ldc2_w 212, 3) := by decide +kernel
theorem dX9_arms_14 : decode cX9_arms 14 = .ok (.invokestatic 83, 3) := by decide +kernel
theorem dX9_arms_17 : decode cX9_arms 17 = .ok (.ifCond .eq 23, 3) := by decide +kernel
theorem dX9_arms_20 : decode cX9_arms 20 = .ok (.iload_n 3, 1) := by decide +kernel
theorem dX9_arms_21 : decode cX9_arms 21 = .ok (.i2l, 1) := by decide +kernel
theorem dX9_arms_22 : decode cX9_arms 22 = .ok (.lconst 0, 1) := by decide +kernel
theorem dX9_arms_23 : decode cX9_arms 23 = .ok (.ldc2_w 217, 3) := by decide +kernel
theorem dX9_arms_26 : decode cX9_arms 26 = .ok (.invokestatic 83, 3) := by decide +kernel
theorem dX9_arms_29 : decode cX9_arms 29 = .ok (.ifCond .eq 11, 3) := by decide +kernel
theorem dX9_arms_32 : decode cX9_arms 32 = .ok (.iload 4, 2) := by decide +kernel
theorem dX9_arms_34 : decode cX9_arms 34 = .ok (.invokestatic 89, 3) := by decide +kernel
theorem dX9_arms_37 : decode cX9_arms 37 = .ok (.ifCond .ne 5, 3) := by decide +kernel
theorem dX9_arms_40 : decode cX9_arms 40 = .ok (.iconst (-1), 1) := by decide +kernel
theorem dX9_arms_41 : decode cX9_arms 41 = .ok (.ireturn, 1) := by decide +kernel
theorem dX9_arms_42 : decode cX9_arms 42 = .ok (.aload_n 0, 1) := by decide +kernel
theorem dX9_arms_43 : decode cX9_arms 43 = .ok (.iload_n 1, 1) := by decide +kernel
theorem dX9_arms_44 : decode cX9_arms 44 = .ok (.invokevirtual 175, 3) := by decide +kernel
theorem dX9_arms_47 : decode cX9_arms 47 = .ok (.ifCond .eq 6, 3) := by decide +kernel
theorem dX9_arms_50 : decode cX9_arms 50 = .ok (.bipush (-4), 2) := by decide +kernel
theorem dX9_arms_52 : decode cX9_arms 52 = .ok (.ireturn, 1) := by decide +kernel
theorem dX9_arms_53 : decode cX9_arms 53 = .ok (.aload_n 0, 1) := by decide +kernel
theorem dX9_arms_54 : decode cX9_arms 54 = .ok (.getfield 7, 3) := by decide +kernel
theorem dX9_arms_57 : decode cX9_arms 57 = .ok (.iconst 2, 1) := by decide +kernel
theorem dX9_arms_58 : decode cX9_arms 58 = .ok (.iload_n 1, 1) := by decide +kernel
theorem dX9_arms_59 : decode cX9_arms 59 = .ok (.iadd, 1) := by decide +kernel
theorem dX9_arms_60 : decode cX9_arms 60 = .ok (.iaload, 1) := by decide +kernel
theorem dX9_arms_61 : decode cX9_arms 61 = .ok (.istore 5, 2) := by decide +kernel
theorem dX9_arms_63 : decode cX9_arms 63 = .ok (.iconst 0, 1) := by decide +kernel
theorem dX9_arms_64 : decode cX9_arms 64 = .ok (.istore 6, 2) := by decide +kernel
theorem dX9_arms_66 : decode cX9_arms 66 = .ok (.iload 6, 2) := by decide +kernel
theorem dX9_arms_68 : decode cX9_arms 68 = .ok (.iload_n 2, 1) := by decide +kernel
theorem dX9_arms_69 : decode cX9_arms 69 = .ok (.if_icmp .gt 138, 3) := by decide +kernel
theorem dX9_arms_72 : decode cX9_arms 72 = .ok (.iconst 0, 1) := by decide +kernel
theorem dX9_arms_73 : decode cX9_arms 73 = .ok (.istore 7, 2) := by decide +kernel
theorem dX9_arms_75 : decode cX9_arms 75 = .ok (.iload 7, 2) := by decide +kernel
theorem dX9_arms_77 : decode cX9_arms 77 = .ok (.bipush 20, 2) := by decide +kernel
theorem dX9_arms_79 : decode cX9_arms 79 = .ok (.if_icmp .gt 122, 3) := by decide +kernel
theorem dX9_arms_82 : decode cX9_arms 82 = .ok (.iload 6, 2) := by decide +kernel
theorem dX9_arms_84 : decode cX9_arms 84 = .ok (.ifCond .ne 13, 3) := by decide +kernel
theorem dX9_arms_87 : decode cX9_arms 87 = .ok (.iload 7, 2) := by decide +kernel
theorem dX9_arms_89 : decode cX9_arms 89 = .ok (.iload_n 3, 1) := by decide +kernel
theorem dX9_arms_90 : decode cX9_arms 90 = .ok (.if_icmp .ne 7, 3) := by decide +kernel
theorem dX9_arms_93 : decode cX9_arms 93 = .ok (.iconst 0, 1) := by decide +kernel
theorem dX9_arms_94 : decode cX9_arms 94 = .ok (.goto 5, 3) := by decide +kernel
theorem dX9_arms_97 : decode cX9_arms 97 = .ok (.ldc 219, 2) := by decide +kernel
theorem dX9_arms_99 : decode cX9_arms 99 = .ok (.istore 8, 2) := by decide +kernel
theorem dX9_arms_101 : decode cX9_arms 101 = .ok (.iconst 0, 1) := by decide +kernel
theorem dX9_arms_102 : decode cX9_arms 102 = .ok (.istore 9, 2) := by decide +kernel
theorem dX9_arms_104 : decode cX9_arms 104 = .ok (.iload 9, 2) := by decide +kernel
theorem dX9_arms_106 : decode cX9_arms 106 = .ok (.bipush 7, 2) := by decide +kernel
theorem dX9_arms_108 : decode cX9_arms 108 = .ok (.if_icmp .ge 72, 3) := by decide +kernel
theorem dX9_arms_111 : decode cX9_arms 111 = .ok (.iload 6, 2) := by decide +kernel
theorem dX9_arms_113 : decode cX9_arms 113 = .ok (.ifCond .le 67, 3) := by decide +kernel
theorem dX9_arms_116 : decode cX9_arms 116 = .ok (.iload 5, 2) := by decide +kernel
theorem dX9_arms_118 : decode cX9_arms 118 = .ok (.iload 7, 2) := by decide +kernel
theorem dX9_arms_120 : decode cX9_arms 120 = .ok (.iload 9, 2) := by decide +kernel
theorem dX9_arms_122 : decode cX9_arms 122 = .ok (.invokestatic 157, 3) := by decide +kernel
theorem dX9_arms_125 : decode cX9_arms 125 = .ok (.istore 10, 2) := by decide +kernel
theorem dX9_arms_127 : decode cX9_arms 127 = .ok (.iload 10, 2) := by decide +kernel
theorem dX9_arms_129 : decode cX9_arms 129 = .ok (.iconst (-1), 1) := by decide +kernel
theorem dX9_arms_130 : decode cX9_arms 130 = .ok (.if_icmp .ne 8, 3) := by decide +kernel
theorem dX9_arms_133 : decode cX9_arms 133 = .ok (.ldc 219, 2) := by decide +kernel
theorem dX9_arms_135 : decode cX9_arms 135 = .ok (.goto 21, 3) := by decide +kernel
theorem dX9_arms_138 : decode cX9_arms 138 = .ok (.iload 9, 2) := by decide +kernel
theorem dX9_arms_140 : decode cX9_arms 140 = .ok (.aload_n 0, 1) := by decide +kernel
theorem dX9_arms_141 : decode cX9_arms 141 = .ok (.getfield 51, 3) := by decide +kernel
theorem dX9_arms_144 : decode cX9_arms 144 = .ok (.bipush 21, 2) := by decide +kernel
theorem dX9_arms_146 : decode cX9_arms 146 = .ok (.iload 6, 2) := by decide +kernel
theorem dX9_arms_148 : decode cX9_arms 148 = .ok (.iconst 1, 1) := by decide +kernel
theorem dX9_arms_149 : decode cX9_arms 149 = .ok (.isub, 1) := by decide +kernel
theorem dX9_arms_150 : decode cX9_arms 150 = .ok (.imul, 1) := by decide +kernel
theorem dX9_arms_151 : decode cX9_arms 151 = .ok (.iload 10, 2) := by decide +kernel
theorem dX9_arms_153 : decode cX9_arms 153 = .ok (.iadd, 1) := by decide +kernel
theorem dX9_arms_154 : decode cX9_arms 154 = .ok (.iaload, 1) := by decide +kernel
theorem dX9_arms_155 : decode cX9_arms 155 = .ok (.iadd, 1) := by decide +kernel
theorem dX9_arms_156 : decode cX9_arms 156 = .ok (.istore 11, 2) := by decide +kernel
theorem dX9_arms_158 : decode cX9_arms 158 = .ok (.iload 11, 2) := by decide +kernel
theorem dX9_arms_160 : decode cX9_arms 160 = .ok (.iload 8, 2) := by decide +kernel
theorem dX9_arms_162 : decode cX9_arms 162 = .ok (.if_icmp .ge 8, 3) := by decide +kernel
theorem dX9_arms_165 : decode cX9_arms 165 = .ok (.iload 11, 2) := by decide +kernel
theorem dX9_arms_167 : decode cX9_arms 167 = .ok (.goto 5, 3) := by decide +kernel
theorem dX9_arms_170 : decode cX9_arms 170 = .ok (.iload 8, 2) := by decide +kernel
theorem dX9_arms_172 : decode cX9_arms 172 = .ok (.istore 8, 2) := by decide +kernel
theorem dX9_arms_174 : decode cX9_arms 174 = .ok (.iinc 9 1, 3) := by decide +kernel
theorem dX9_arms_177 : decode cX9_arms 177 = .ok (.goto (-73), 3) := by decide +kernel
theorem dX9_arms_180 : decode cX9_arms 180 = .ok (.aload_n 0, 1) := by decide +kernel
theorem dX9_arms_181 : decode cX9_arms 181 = .ok (.getfield 51, 3) := by decide +kernel
theorem dX9_arms_184 : decode cX9_arms 184 = .ok (.bipush 21, 2) := by decide +kernel
theorem dX9_arms_186 : decode cX9_arms 186 = .ok (.iload 6, 2) := by decide +kernel
theorem dX9_arms_188 : decode cX9_arms 188 = .ok (.imul, 1) := by decide +kernel
theorem dX9_arms_189 : decode cX9_arms 189 = .ok (.iload 7, 2) := by decide +kernel
theorem dX9_arms_191 : decode cX9_arms 191 = .ok (.iadd, 1) := by decide +kernel
theorem dX9_arms_192 : decode cX9_arms 192 = .ok (.iload 8, 2) := by decide +kernel
theorem dX9_arms_194 : decode cX9_arms 194 = .ok (.iastore, 1) := by decide +kernel
theorem dX9_arms_195 : decode cX9_arms 195 = .ok (.iinc 7 1, 3) := by decide +kernel
theorem dX9_arms_198 : decode cX9_arms 198 = .ok (.goto (-123), 3) := by decide +kernel
theorem dX9_arms_201 : decode cX9_arms 201 = .ok (.iinc 6 1, 3) := by decide +kernel
theorem dX9_arms_204 : decode cX9_arms 204 = .ok (.goto (-138), 3) := by decide +kernel
theorem dX9_arms_207 : decode cX9_arms 207 = .ok (.aload_n 0, 1) := by decide +kernel
theorem dX9_arms_208 : decode cX9_arms 208 = .ok (.getfield 7, 3) := by decide +kernel
theorem dX9_arms_211 : decode cX9_arms 211 = .ok (.bipush 14, 2) := by decide +kernel
theorem dX9_arms_213 : decode cX9_arms 213 = .ok (.iload_n 1, 1) := by decide +kernel
theorem dX9_arms_214 : decode cX9_arms 214 = .ok (.iadd, 1) := by decide +kernel
theorem dX9_arms_215 : decode cX9_arms 215 = .ok (.iaload, 1) := by decide +kernel
theorem dX9_arms_216 : decode cX9_arms 216 = .ok (.istore 6, 2) := by decide +kernel
theorem dX9_arms_218 : decode cX9_arms 218 = .ok (.aload_n 0, 1) := by decide +kernel
theorem dX9_arms_219 : decode cX9_arms 219 = .ok (.getfield 51, 3) := by decide +kernel
theorem dX9_arms_222 : decode cX9_arms 222 = .ok (.bipush 21, 2) := by decide +kernel
theorem dX9_arms_224 : decode cX9_arms 224 = .ok (.iload_n 2, 1) := by decide +kernel
theorem dX9_arms_225 : decode cX9_arms 225 = .ok (.imul, 1) := by decide +kernel
theorem dX9_arms_226 : decode cX9_arms 226 = .ok (.iload 6, 2) := by decide +kernel
theorem dX9_arms_228 : decode cX9_arms 228 = .ok (.iadd, 1) := by decide +kernel
theorem dX9_arms_229 : decode cX9_arms 229 = .ok (.iaload, 1) := by decide +kernel
theorem dX9_arms_230 : decode cX9_arms 230 = .ok (.istore 7, 2) := by decide +kernel
theorem dX9_arms_232 : decode cX9_arms 232 = .ok (.iload 7, 2) := by decide +kernel
theorem dX9_arms_234 : decode cX9_arms 234 = .ok (.ldc 219, 2) := by decide +kernel
theorem dX9_arms_236 : decode cX9_arms 236 = .ok (.if_icmp .lt 6, 3) := by decide +kernel
theorem dX9_arms_239 : decode cX9_arms 239 = .ok (.bipush (-9), 2) := by decide +kernel
theorem dX9_arms_241 : decode cX9_arms 241 = .ok (.ireturn, 1) := by decide +kernel
theorem dX9_arms_242 : decode cX9_arms 242 = .ok (.aload_n 0, 1) := by decide +kernel
theorem dX9_arms_243 : decode cX9_arms 243 = .ok (.iload 4, 2) := by decide +kernel
theorem dX9_arms_245 : decode cX9_arms 245 = .ok (.iload_n 2, 1) := by decide +kernel
theorem dX9_arms_246 : decode cX9_arms 246 = .ok (.invokevirtual 97, 3) := by decide +kernel
theorem dX9_arms_249 : decode cX9_arms 249 = .ok (.iconst 0, 1) := by decide +kernel
theorem dX9_arms_250 : decode cX9_arms 250 = .ok (.istore 8, 2) := by decide +kernel
theorem dX9_arms_252 : decode cX9_arms 252 = .ok (.iload 8, 2) := by decide +kernel
theorem dX9_arms_254 : decode cX9_arms 254 = .ok (.iload_n 2, 1) := by decide +kernel
theorem dX9_arms_255 : decode cX9_arms 255 = .ok (.if_icmp .ge 102, 3) := by decide +kernel
theorem dX9_arms_258 : decode cX9_arms 258 = .ok (.iconst 0, 1) := by decide +kernel
theorem dX9_arms_259 : decode cX9_arms 259 = .ok (.istore 9, 2) := by decide +kernel
theorem dX9_arms_261 : decode cX9_arms 261 = .ok (.iload 5, 2) := by decide +kernel
theorem dX9_arms_263 : decode cX9_arms 263 = .ok (.iload 6, 2) := by decide +kernel
theorem dX9_arms_265 : decode cX9_arms 265 = .ok (.iconst 0, 1) := by decide +kernel
theorem dX9_arms_266 : decode cX9_arms 266 = .ok (.invokestatic 157, 3) := by decide +kernel
theorem dX9_arms_269 : decode cX9_arms 269 = .ok (.istore 10, 2) := by decide +kernel
theorem dX9_arms_271 : decode cX9_arms 271 = .ok (.iload 10, 2) := by decide +kernel
theorem dX9_arms_273 : decode cX9_arms 273 = .ok (.iconst (-1), 1) := by decide +kernel
theorem dX9_arms_274 : decode cX9_arms 274 = .ok (.if_icmp .eq 41, 3) := by decide +kernel
theorem dX9_arms_277 : decode cX9_arms 277 = .ok (.iload 9, 2) := by decide +kernel
theorem dX9_arms_279 : decode cX9_arms 279 = .ok (.aload_n 0, 1) := by decide +kernel
theorem dX9_arms_280 : decode cX9_arms 280 = .ok (.getfield 51, 3) := by decide +kernel
theorem dX9_arms_283 : decode cX9_arms 283 = .ok (.bipush 21, 2) := by decide +kernel
theorem dX9_arms_285 : decode cX9_arms 285 = .ok (.iload_n 2, 1) := by decide +kernel
theorem dX9_arms_286 : decode cX9_arms 286 = .ok (.iload 8, 2) := by decide +kernel
theorem dX9_arms_288 : decode cX9_arms 288 = .ok (.isub, 1) := by decide +kernel
theorem dX9_arms_289 : decode cX9_arms 289 = .ok (.iconst 1, 1) := by decide +kernel
theorem dX9_arms_290 : decode cX9_arms 290 = .ok (.isub, 1) := by decide +kernel
theorem dX9_arms_291 : decode cX9_arms 291 = .ok (.imul, 1) := by decide +kernel
theorem dX9_arms_292 : decode cX9_arms 292 = .ok (.iload 10, 2) := by decide +kernel
theorem dX9_arms_294 : decode cX9_arms 294 = .ok (.iadd, 1) := by decide +kernel
theorem dX9_arms_295 : decode cX9_arms 295 = .ok (.iaload, 1) := by decide +kernel
theorem dX9_arms_296 : decode cX9_arms 296 = .ok (.iadd, 1) := by decide +kernel
theorem dX9_arms_297 : decode cX9_arms 297 = .ok (.aload_n 0, 1) := by decide +kernel
theorem dX9_arms_298 : decode cX9_arms 298 = .ok (.getfield 51, 3) := by decide +kernel
theorem dX9_arms_301 : decode cX9_arms 301 = .ok (.bipush 21, 2) := by decide +kernel
theorem dX9_arms_303 : decode cX9_arms 303 = .ok (.iload_n 2, 1) := by decide +kernel
theorem dX9_arms_304 : decode cX9_arms 304 = .ok (.iload 8, 2) := by decide +kernel
theorem dX9_arms_306 : decode cX9_arms 306 = .ok (.isub, 1) := by decide +kernel
theorem dX9_arms_307 : decode cX9_arms 307 = .ok (.imul, 1) := by decide +kernel
theorem dX9_arms_308 : decode cX9_arms 308 = .ok (.iload 6, 2) := by decide +kernel
theorem dX9_arms_310 : decode cX9_arms 310 = .ok (.iadd, 1) := by decide +kernel
theorem dX9_arms_311 : decode cX9_arms 311 = .ok (.iaload, 1) := by decide +kernel
theorem dX9_arms_312 : decode cX9_arms 312 = .ok (.if_icmp .eq 20, 3) := by decide +kernel
theorem dX9_arms_315 : decode cX9_arms 315 = .ok (.iinc 9 1, 3) := by decide +kernel
theorem dX9_arms_318 : decode cX9_arms 318 = .ok (.iload 5, 2) := by decide +kernel
theorem dX9_arms_320 : decode cX9_arms 320 = .ok (.iload 6, 2) := by decide +kernel
theorem dX9_arms_322 : decode cX9_arms 322 = .ok (.iload 9, 2) := by decide +kernel
theorem dX9_arms_324 : decode cX9_arms 324 = .ok (.invokestatic 157, 3) := by decide +kernel
theorem dX9_arms_327 : decode cX9_arms 327 = .ok (.istore 10, 2) := by decide +kernel
theorem dX9_arms_329 : decode cX9_arms 329 = .ok (.goto (-58), 3) := by decide +kernel
theorem dX9_arms_332 : decode cX9_arms 332 = .ok (.aload_n 0, 1) := by decide +kernel
theorem dX9_arms_333 : decode cX9_arms 333 = .ok (.getfield 16, 3) := by decide +kernel
theorem dX9_arms_336 : decode cX9_arms 336 = .ok (.bipush 40, 2) := by decide +kernel
theorem dX9_arms_338 : decode cX9_arms 338 = .ok (.iload 4, 2) := by decide +kernel
theorem dX9_arms_340 : decode cX9_arms 340 = .ok (.imul, 1) := by decide +kernel
theorem dX9_arms_341 : decode cX9_arms 341 = .ok (.iload 8, 2) := by decide +kernel
theorem dX9_arms_343 : decode cX9_arms 343 = .ok (.iadd, 1) := by decide +kernel
theorem dX9_arms_344 : decode cX9_arms 344 = .ok (.iload 9, 2) := by decide +kernel
theorem dX9_arms_346 : decode cX9_arms 346 = .ok (.iastore, 1) := by decide +kernel
theorem dX9_arms_347 : decode cX9_arms 347 = .ok (.iload 10, 2) := by decide +kernel
theorem dX9_arms_349 : decode cX9_arms 349 = .ok (.istore 6, 2) := by decide +kernel
theorem dX9_arms_351 : decode cX9_arms 351 = .ok (.iinc 8 1, 3) := by decide +kernel
theorem dX9_arms_354 : decode cX9_arms 354 = .ok (.goto (-102), 3) := by decide +kernel
theorem dX9_arms_357 : decode cX9_arms 357 = .ok (.iload 7, 2) := by decide +kernel
theorem dX9_arms_359 : decode cX9_arms 359 = .ok (.ireturn, 1) := by decide +kernel
theorem dX9_hold_0 : decode cX9_hold 0 = .ok (.aload_n 0, 1) := by decide +kernel
theorem dX9_hold_1 : decode cX9_hold 1 = .ok (.iload_n 1, 1) := by decide +kernel
theorem dX9_hold_2 : decode cX9_hold 2 = .ok (.invokevirtual 145, 3) := by decide +kernel
theorem dX9_hold_5 : decode cX9_hold 5 = .ok (.ifCond .eq 15, 3) := by decide +kernel
theorem dX9_hold_8 : decode cX9_hold 8 = .ok (.iload_n 2, 1) := by decide +kernel
theorem dX9_hold_9 : decode cX9_hold 9 = .ok (.i2l, 1) := by decide +kernel
theorem dX9_hold_10 : decode cX9_hold 10 = .ok (.lconst 0, 1) := by decide +kernel
theorem dX9_hold_11 : decode cX9_hold 11 = .ok (.ldc2_w 220, 3) := by decide +kernel
theorem dX9_hold_14 : decode cX9_hold 14 = .ok (.invokestatic 83, 3) := by decide +kernel
theorem dX9_hold_17 : decode cX9_hold 17 = .ok (.ifCond .ne 5, 3) := by decide +kernel
theorem dX9_hold_20 : decode cX9_hold 20 = .ok (.iconst (-1), 1) := by decide +kernel
theorem dX9_hold_21 : decode cX9_hold 21 = .ok (.ireturn, 1) := by decide +kernel
theorem dX9_hold_22 : decode cX9_hold 22 = .ok (.aload_n 0, 1) := by decide +kernel
theorem dX9_hold_23 : decode cX9_hold 23 = .ok (.iload_n 1, 1) := by decide +kernel
theorem dX9_hold_24 : decode cX9_hold 24 = .ok (.invokevirtual 175, 3) := by decide +kernel
theorem dX9_hold_27 : decode cX9_hold 27 = .ok (.ifCond .eq 6, 3) := by decide +kernel
theorem dX9_hold_30 : decode cX9_hold 30 = .ok (.bipush (-4), 2) := by decide +kernel
theorem dX9_hold_32 : decode cX9_hold 32 = .ok (.ireturn, 1) := by decide +kernel
theorem dX9_hold_33 : decode cX9_hold 33 = .ok (.bipush (-9), 2) := by decide +kernel
theorem dX9_hold_35 : decode cX9_hold 35 = .ok (.istore_n 3, 1) := by decide +kernel
theorem dX9_hold_36 : decode cX9_hold 36 = .ok (.ldc 219, 2) := by decide +kernel
theorem dX9_hold_38 : decode cX9_hold 38 = .ok (.istore 4, 2) := by decide +kernel
theorem dX9_hold_40 : decode cX9_hold 40 = .ok (.iconst 0, 1) := by decide +kernel
theorem dX9_hold_41 : decode cX9_hold 41 = .ok (.istore 5, 2) := by decide +kernel
theorem dX9_hold_43 : decode cX9_hold 43 = .ok (.iload 5, 2) := by decide +kernel
theorem dX9_hold_45 : decode cX9_hold 45 = .ok (.bipush 7, 2) := by decide +kernel
theorem dX9_hold_47 : decode cX9_hold 47 = .ok (.if_icmp .ge 88, 3) := by decide +kernel
theorem dX9_hold_50 : decode cX9_hold 50 = .ok (.aload_n 0, 1) := by decide +kernel
theorem dX9_hold_51 : decode cX9_hold 51 = .ok (.iload_n 1, 1) := by decide +kernel
theorem dX9_hold_52 : decode cX9_hold 52 = .ok (.aload_n 0, 1) := by decide +kernel
theorem dX9_hold_53 : decode cX9_hold 53 = .ok (.getfield 7, 3) := by decide +kernel
theorem dX9_hold_56 : decode cX9_hold 56 = .ok (.bipush 14, 2) := by decide +kernel
theorem dX9_hold_58 : decode cX9_hold 58 = .ok (.iload_n 1, 1) := by decide +kernel
theorem dX9_hold_59 : decode cX9_hold 59 = .ok (.iadd, 1) := by decide +kernel
theorem dX9_hold_60 : decode cX9_hold 60 = .ok (.iaload, 1) := by decide +kernel
theorem dX9_hold_61 : decode cX9_hold 61 = .ok (.iload 5, 2) := by decide +kernel
theorem dX9_hold_63 : decode cX9_hold 63 = .ok (.invokevirtual 164, 3) := by decide +kernel
theorem dX9_hold_66 : decode cX9_hold 66 = .ok (.istore 6, 2) := by decide +kernel
theorem dX9_hold_68 : decode cX9_hold 68 = .ok (.iload 6, 2) := by decide +kernel
theorem dX9_hold_70 : decode cX9_hold 70 = .ok (.bipush (-9), 2) := by decide +kernel
theorem dX9_hold_72 : decode cX9_hold 72 = .ok (.if_icmp .ne 8, 3) := by decide +kernel
theorem dX9_hold_75 : decode cX9_hold 75 = .ok (.ldc 219, 2) := by decide +kernel
theorem dX9_hold_77 : decode cX9_hold 77 = .ok (.goto 20, 3) := by decide +kernel
theorem dX9_hold_80 : decode cX9_hold 80 = .ok (.iload 6, 2) := by decide +kernel
theorem dX9_hold_82 : decode cX9_hold 82 = .ok (.iload_n 2, 1) := by decide +kernel
theorem dX9_hold_83 : decode cX9_hold 83 = .ok (.if_icmp .le 10, 3) := by decide +kernel
theorem dX9_hold_86 : decode cX9_hold 86 = .ok (.iload 6, 2) := by decide +kernel
theorem dX9_hold_88 : decode cX9_hold 88 = .ok (.iload_n 2, 1) := by decide +kernel
theorem dX9_hold_89 : decode cX9_hold 89 = .ok (.isub, 1) := by decide +kernel
theorem dX9_hold_90 : decode cX9_hold 90 = .ok (.goto 7, 3) := by decide +kernel
theorem dX9_hold_93 : decode cX9_hold 93 = .ok (.iload_n 2, 1) := by decide +kernel
theorem dX9_hold_94 : decode cX9_hold 94 = .ok (.iload 6, 2) := by decide +kernel
theorem dX9_hold_96 : decode cX9_hold 96 = .ok (.isub, 1) := by decide +kernel
theorem dX9_hold_97 : decode cX9_hold 97 = .ok (.istore 7, 2) := by decide +kernel
theorem dX9_hold_99 : decode cX9_hold 99 = .ok (.iload 7, 2) := by decide +kernel
theorem dX9_hold_101 : decode cX9_hold 101 = .ok (.iload 4, 2) := by decide +kernel
theorem dX9_hold_103 : decode cX9_hold 103 = .ok (.if_icmp .ge 8, 3) := by decide +kernel
theorem dX9_hold_106 : decode cX9_hold 106 = .ok (.iload 5, 2) := by decide +kernel
theorem dX9_hold_108 : decode cX9_hold 108 = .ok (.goto 4, 3) := by decide +kernel
theorem dX9_hold_111 : decode cX9_hold 111 = .ok (.iload_n 3, 1) := by decide +kernel
theorem dX9_hold_112 : decode cX9_hold 112 = .ok (.istore_n 3, 1) := by decide +kernel
theorem dX9_hold_113 : decode cX9_hold 113 = .ok (.iload 7, 2) := by decide +kernel
theorem dX9_hold_115 : decode cX9_hold 115 = .ok (.iload 4, 2) := by decide +kernel
theorem dX9_hold_117 : decode cX9_hold 117 = .ok (.if_icmp .ge 8, 3) := by decide +kernel
theorem dX9_hold_120 : decode cX9_hold 120 = .ok (.iload 7, 2) := by decide +kernel
theorem dX9_hold_122 : decode cX9_hold 122 = .ok (.goto 5, 3) := by decide +kernel
theorem dX9_hold_125 : decode cX9_hold 125 = .ok (.iload 4, 2) := by decide +kernel
theorem dX9_hold_127 : decode cX9_hold 127 = .ok (.istore 4, 2) := by decide +kernel
theorem dX9_hold_129 : decode cX9_hold 129 = .ok (.iinc 5 1, 3) := by decide +kernel
theorem dX9_hold_132 : decode cX9_hold 132 = .ok (.goto (-89), 3) := by decide +kernel
theorem dX9_hold_135 : decode cX9_hold 135 = .ok (.iload_n 3, 1) := by decide +kernel
theorem dX9_hold_136 : decode cX9_hold 136 = .ok (.bipush (-9), 2) := by decide +kernel
theorem dX9_hold_138 : decode cX9_hold 138 = .ok (.if_icmp .ne 8, 3) := by decide +kernel
theorem dX9_hold_141 : decode cX9_hold 141 = .ok (.bipush (-9), 2) := by decide +kernel
theorem dX9_hold_143 : decode cX9_hold 143 = .ok (.goto 10, 3) := by decide +kernel
theorem dX9_hold_146 : decode cX9_hold 146 = .ok (.aload_n 0, 1) := by decide +kernel
theorem dX9_hold_147 : decode cX9_hold 147 = .ok (.iload 4, 2) := by decide +kernel
theorem dX9_hold_149 : decode cX9_hold 149 = .ok (.iload_n 3, 1) := by decide +kernel
theorem dX9_hold_150 : decode cX9_hold 150 = .ok (.invokevirtual 105, 3) := by decide +kernel
theorem dX9_hold_153 : decode cX9_hold 153 = .ok (.ireturn, 1) := by decide +kernel
theorem dX9_drops_0 : decode cX9_drops 0 = .ok (.aload_n 0, 1) := by decide +kernel
theorem dX9_drops_1 : decode cX9_drops 1 = .ok (.iload_n 1, 1) := by decide +kernel
theorem dX9_drops_2 : decode cX9_drops 2 = .ok (.invokevirtual 145, 3) := by decide +kernel
theorem dX9_drops_5 : decode cX9_drops 5 = .ok (.ifCond .ne 5, 3) := by decide +kernel
theorem dX9_drops_8 : decode cX9_drops 8 = .ok (.iconst (-1), 1) := by decide +kernel
theorem dX9_drops_9 : decode cX9_drops 9 = .ok (.ireturn, 1) := by decide +kernel
theorem dX9_drops_10 : decode cX9_drops 10 = .ok (.aload_n 0, 1) := by decide +kernel
theorem dX9_drops_11 : decode cX9_drops 11 = .ok (.iload_n 1, 1) := by decide +kernel
theorem dX9_drops_12 : decode cX9_drops 12 = .ok (.invokevirtual 175, 3) := by decide +kernel
theorem dX9_drops_15 : decode cX9_drops 15 = .ok (.ifCond .eq 6, 3) := by decide +kernel
theorem dX9_drops_18 : decode cX9_drops 18 = .ok (.bipush (-4), 2) := by decide +kernel
theorem dX9_drops_20 : decode cX9_drops 20 = .ok (.ireturn, 1) := by decide +kernel
theorem dX9_drops_21 : decode cX9_drops 21 = .ok (.aload_n 0, 1) := by decide +kernel
theorem dX9_drops_22 : decode cX9_drops 22 = .ok (.getfield 7, 3) := by decide +kernel
theorem dX9_drops_25 : decode cX9_drops 25 = .ok (.bipush 14, 2) := by decide +kernel
theorem dX9_drops_27 : decode cX9_drops 27 = .ok (.iload_n 1, 1) := by decide +kernel
theorem dX9_drops_28 : decode cX9_drops 28 = .ok (.iadd, 1) := by decide +kernel
theorem dX9_drops_29 : decode cX9_drops 29 = .ok (.iaload, 1) := by decide +kernel
theorem dX9_drops_30 : decode cX9_drops 30 = .ok (.istore_n 2, 1) := by decide +kernel
theorem dX9_drops_31 : decode cX9_drops 31 = .ok (.iconst 0, 1) := by decide +kernel
theorem dX9_drops_32 : decode cX9_drops 32 = .ok (.istore_n 3, 1) := by decide +kernel
theorem dX9_drops_33 : decode cX9_drops 33 = .ok (.iload_n 2, 1) := by decide +kernel
theorem dX9_drops_34 : decode cX9_drops 34 = .ok (.iconst 5, 1) := by decide +kernel
theorem dX9_drops_35 : decode cX9_drops 35 = .ok (.if_icmp .lt 29, 3) := by decide +kernel
theorem dX9_drops_38 : decode cX9_drops 38 = .ok (.iload_n 3, 1) := by decide +kernel
theorem dX9_drops_39 : decode cX9_drops 39 = .ok (.bipush 30, 2) := by decide +kernel
theorem dX9_drops_41 : decode cX9_drops 41 = .ok (.if_icmp .gt 23, 3) := by decide +kernel
theorem dX9_drops_44 : decode cX9_drops 44 = .ok (.aload_n 0, 1) := by decide +kernel
theorem dX9_drops_45 : decode cX9_drops 45 = .ok (.getfield 7, 3) := by decide +kernel
theorem dX9_drops_48 : decode cX9_drops 48 = .ok (.iconst 2, 1) := by decide +kernel
theorem dX9_drops_49 : decode cX9_drops 49 = .ok (.iload_n 1, 1) := by decide +kernel
theorem dX9_drops_50 : decode cX9_drops 50 = .ok (.iadd, 1) := by decide +kernel
theorem dX9_drops_51 : decode cX9_drops 51 = .ok (.iaload, 1) := by decide +kernel
theorem dX9_drops_52 : decode cX9_drops 52 = .ok (.iload_n 2, 1) := by decide +kernel
theorem dX9_drops_53 : decode cX9_drops 53 = .ok (.iconst 0, 1) := by decide +kernel
theorem dX9_drops_54 : decode cX9_drops 54 = .ok (.invokestatic 157, 3) := by decide +kernel
theorem dX9_drops_57 : decode cX9_drops 57 = .ok (.istore_n 2, 1) := by decide +kernel
theorem dX9_drops_58 : decode cX9_drops 58 = .ok (.iinc 3 1, 3) := by decide +kernel
theorem dX9_drops_61 : decode cX9_drops 61 = .ok (.goto (-28), 3) := by decide +kernel
theorem dX9_drops_64 : decode cX9_drops 64 = .ok (.iload_n 3, 1) := by decide +kernel
theorem dX9_drops_65 : decode cX9_drops 65 = .ok (.bipush 30, 2) := by decide +kernel
theorem dX9_drops_67 : decode cX9_drops 67 = .ok (.if_icmp .le 8, 3) := by decide +kernel
theorem dX9_drops_70 : decode cX9_drops 70 = .ok (.bipush (-9), 2) := by decide +kernel
theorem dX9_drops_72 : decode cX9_drops 72 = .ok (.goto 4, 3) := by decide +kernel
theorem dX9_drops_75 : decode cX9_drops 75 = .ok (.iload_n 3, 1) := by decide +kernel
theorem dX9_drops_76 : decode cX9_drops 76 = .ok (.ireturn, 1) := by decide +kernel
theorem dX9_back_0 : decode cX9_back 0 = .ok (.aload_n 0, 1) := by decide +kernel
theorem dX9_back_1 : decode cX9_back 1 = .ok (.iload_n 1, 1) := by decide +kernel
theorem dX9_back_2 : decode cX9_back 2 = .ok (.invokevirtual 145, 3) := by decide +kernel
theorem dX9_back_5 : decode cX9_back 5 = .ok (.ifCond .ne 5, 3) := by decide +kernel
theorem dX9_back_8 : decode cX9_back 8 = .ok (.iconst (-1), 1) := by decide +kernel
theorem dX9_back_9 : decode cX9_back 9 = .ok (.ireturn, 1) := by decide +kernel
theorem dX9_back_10 : decode cX9_back 10 = .ok (.aload_n 0, 1) := by decide +kernel
theorem dX9_back_11 : decode cX9_back 11 = .ok (.iload_n 1, 1) := by decide +kernel
theorem dX9_back_12 : decode cX9_back 12 = .ok (.invokevirtual 175, 3) := by decide +kernel
theorem dX9_back_15 : decode cX9_back 15 = .ok (.ifCond .eq 6, 3) := by decide +kernel
theorem dX9_back_18 : decode cX9_back 18 = .ok (.bipush (-4), 2) := by decide +kernel
theorem dX9_back_20 : decode cX9_back 20 = .ok (.ireturn, 1) := by decide +kernel
theorem dX9_back_21 : decode cX9_back 21 = .ok (.aload_n 0, 1) := by decide +kernel
theorem dX9_back_22 : decode cX9_back 22 = .ok (.getfield 7, 3) := by decide +kernel
theorem dX9_back_25 : decode cX9_back 25 = .ok (.bipush 14, 2) := by decide +kernel
theorem dX9_back_27 : decode cX9_back 27 = .ok (.iload_n 1, 1) := by decide +kernel
theorem dX9_back_28 : decode cX9_back 28 = .ok (.iadd, 1) := by decide +kernel
theorem dX9_back_29 : decode cX9_back 29 = .ok (.iaload, 1) := by decide +kernel
theorem dX9_back_30 : decode cX9_back 30 = .ok (.istore_n 2, 1) := by decide +kernel
theorem dX9_back_31 : decode cX9_back 31 = .ok (.iconst 0, 1) := by decide +kernel
theorem dX9_back_32 : decode cX9_back 32 = .ok (.istore_n 3, 1) := by decide +kernel
theorem dX9_back_33 : decode cX9_back 33 = .ok (.iload_n 2, 1) := by decide +kernel
theorem dX9_back_34 : decode cX9_back 34 = .ok (.iconst 5, 1) := by decide +kernel
theorem dX9_back_35 : decode cX9_back 35 = .ok (.if_icmp .ge 30, 3) := by decide +kernel
theorem dX9_back_38 : decode cX9_back 38 = .ok (.iload_n 3, 1) := by decide +kernel
theorem dX9_back_39 : decode cX9_back 39 = .ok (.bipush 30, 2) := by decide +kernel
theorem dX9_back_41 : decode cX9_back 41 = .ok (.if_icmp .gt 24, 3) := by decide +kernel
theorem dX9_back_44 : decode cX9_back 44 = .ok (.aload_n 0, 1) := by decide +kernel
theorem dX9_back_45 : decode cX9_back 45 = .ok (.getfield 7, 3) := by decide +kernel
theorem dX9_back_48 : decode cX9_back 48 = .ok (.iconst 2, 1) := by decide +kernel
theorem dX9_back_49 : decode cX9_back 49 = .ok (.iload_n 1, 1) := by decide +kernel
theorem dX9_back_50 : decode cX9_back 50 = .ok (.iadd, 1) := by decide +kernel
theorem dX9_back_51 : decode cX9_back 51 = .ok (.iaload, 1) := by decide +kernel
theorem dX9_back_52 : decode cX9_back 52 = .ok (.iload_n 2, 1) := by decide +kernel
theorem dX9_back_53 : decode cX9_back 53 = .ok (.bipush 6, 2) := by decide +kernel
theorem dX9_back_55 : decode cX9_back 55 = .ok (.invokestatic 157, 3) := by decide +kernel
theorem dX9_back_58 : decode cX9_back 58 = .ok (.istore_n 2, 1) := by decide +kernel
theorem dX9_back_59 : decode cX9_back 59 = .ok (.iinc 3 1, 3) := by decide +kernel
theorem dX9_back_62 : decode cX9_back 62 = .ok (.goto (-29), 3) := by decide +kernel
theorem dX9_back_65 : decode cX9_back 65 = .ok (.iload_n 3, 1) := by decide +kernel
theorem dX9_back_66 : decode cX9_back 66 = .ok (.bipush 30, 2) := by decide +kernel
theorem dX9_back_68 : decode cX9_back 68 = .ok (.if_icmp .le 8, 3) := by decide +kernel
theorem dX9_back_71 : decode cX9_back 71 = .ok (.bipush (-9), 2) := by decide +kernel
theorem dX9_back_73 : decode cX9_back 73 = .ok (.goto 4, 3) := by decide +kernel
theorem dX9_back_76 : decode cX9_back 76 = .ok (.iload_n 3, 1) := by decide +kernel
theorem dX9_back_77 : decode cX9_back 77 = .ok (.ireturn, 1) := by decide +kernel
theorem dX9_error_0 : decode cX9_error 0 = .ok (.aload_n 0, 1) := by decide +kernel
theorem dX9_error_1 : decode cX9_error 1 = .ok (.iload_n 1, 1) := by decide +kernel
theorem dX9_error_2 : decode cX9_error 2 = .ok (.invokevirtual 197, 3) := by decide +kernel
theorem dX9_error_5 : decode cX9_error 5 = .ok (.istore_n 2, 1) := by decide +kernel
theorem dX9_error_6 : decode cX9_error 6 = .ok (.iload_n 2, 1) := by decide +kernel
theorem dX9_error_7 : decode cX9_error 7 = .ok (.ifCond .ge 5, 3) := by decide +kernel
theorem dX9_error_10 : decode cX9_error 10 = .ok (.iload_n 2, 1) := by decide +kernel
theorem dX9_error_11 : decode cX9_error 11 = .ok (.ireturn, 1) := by decide +kernel
theorem dX9_error_12 : decode cX9_error 12 = .ok (.aload_n 0, 1) := by decide +kernel
theorem dX9_error_13 : decode cX9_error 13 = .ok (.iload_n 1, 1) := by decide +kernel
theorem dX9_error_14 : decode cX9_error 14 = .ok (.invokevirtual 200, 3) := by decide +kernel
theorem dX9_error_17 : decode cX9_error 17 = .ok (.aload_n 0, 1) := by decide +kernel
theorem dX9_error_18 : decode cX9_error 18 = .ok (.aload_n 0, 1) := by decide +kernel
theorem dX9_error_19 : decode cX9_error 19 = .ok (.invokevirtual 203, 3) := by decide +kernel
theorem dX9_error_22 : decode cX9_error 22 = .ok (.aload_n 0, 1) := by decide +kernel
theorem dX9_error_23 : decode cX9_error 23 = .ok (.invokevirtual 222, 3) := by decide +kernel
theorem dX9_error_26 : decode cX9_error 26 = .ok (.invokevirtual 105, 3) := by decide +kernel
theorem dX9_error_29 : decode cX9_error 29 = .ok (.ireturn, 1) := by decide +kernel
theorem dX9_heard_0 : decode cX9_heard 0 = .ok (.iload_n 2, 1) := by decide +kernel
theorem dX9_heard_1 : decode cX9_heard 1 = .ok (.i2l, 1) := by decide +kernel
theorem dX9_heard_2 : decode cX9_heard 2 = .ok (.lconst 0, 1) := by decide +kernel
theorem dX9_heard_3 : decode cX9_heard 3 = .ok (.ldc2_w 81, 3) := by decide +kernel
theorem dX9_heard_6 : decode cX9_heard 6 = .ok (.invokestatic 83, 3) := by decide +kernel
theorem dX9_heard_9 : decode cX9_heard 9 = .ok (.ifCond .ne 5, 3) := by decide +kernel
theorem dX9_heard_12 : decode cX9_heard 12 = .ok (.iconst (-1), 1) := by decide +kernel
theorem dX9_heard_13 : decode cX9_heard 13 = .ok (.ireturn, 1) := by decide +kernel
theorem dX9_heard_14 : decode cX9_heard 14 = .ok (.aload_n 0, 1) := by decide +kernel
theorem dX9_heard_15 : decode cX9_heard 15 = .ok (.iload_n 1, 1) := by decide +kernel
theorem dX9_heard_16 : decode cX9_heard 16 = .ok (.invokevirtual 197, 3) := by decide +kernel
theorem dX9_heard_19 : decode cX9_heard 19 = .ok (.istore_n 3, 1) := by decide +kernel
theorem dX9_heard_20 : decode cX9_heard 20 = .ok (.iload_n 3, 1) := by decide +kernel
theorem dX9_heard_21 : decode cX9_heard 21 = .ok (.ifCond .ge 5, 3) := by decide +kernel
theorem dX9_heard_24 : decode cX9_heard 24 = .ok (.iload_n 3, 1) := by decide +kernel
theorem dX9_heard_25 : decode cX9_heard 25 = .ok (.ireturn, 1) := by decide +kernel
theorem dX9_heard_26 : decode cX9_heard 26 = .ok (.aload_n 0, 1) := by decide +kernel
theorem dX9_heard_27 : decode cX9_heard 27 = .ok (.iload_n 1, 1) := by decide +kernel
theorem dX9_heard_28 : decode cX9_heard 28 = .ok (.invokevirtual 200, 3) := by decide +kernel
theorem dX9_heard_31 : decode cX9_heard 31 = .ok (.iload_n 2, 1) := by decide +kernel
theorem dX9_heard_32 : decode cX9_heard 32 = .ok (.aload_n 0, 1) := by decide +kernel
theorem dX9_heard_33 : decode cX9_heard 33 = .ok (.getfield 188, 3) := by decide +kernel
theorem dX9_heard_36 : decode cX9_heard 36 = .ok (.if_icmp .ge 27, 3) := by decide +kernel
theorem dX9_heard_39 : decode cX9_heard 39 = .ok (.aload_n 0, 1) := by decide +kernel
theorem dX9_heard_40 : decode cX9_heard 40 = .ok (.aload_n 0, 1) := by decide +kernel
theorem dX9_heard_41 : decode cX9_heard 41 = .ok (.getfield 41, 3) := by decide +kernel
theorem dX9_heard_44 : decode cX9_heard 44 = .ok (.aload_n 0, 1) := by decide +kernel
theorem dX9_heard_45 : decode cX9_heard 45 = .ok (.getfield 44, 3) := by decide +kernel
theorem dX9_heard_48 : decode cX9_heard 48 = .ok (.iload_n 2, 1) := by decide +kernel
theorem dX9_heard_49 : decode cX9_heard 49 = .ok (.iaload, 1) := by decide +kernel
theorem dX9_heard_50 : decode cX9_heard 50 = .ok (.iaload, 1) := by decide +kernel
theorem dX9_heard_51 : decode cX9_heard 51 = .ok (.aload_n 0, 1) := by decide +kernel
theorem dX9_heard_52 : decode cX9_heard 52 = .ok (.getfield 44, 3) := by decide +kernel
theorem dX9_heard_55 : decode cX9_heard 55 = .ok (.iload_n 2, 1) := by decide +kernel
theorem dX9_heard_56 : decode cX9_heard 56 = .ok (.iaload, 1) := by decide +kernel
theorem dX9_heard_57 : decode cX9_heard 57 = .ok (.invokevirtual 105, 3) := by decide +kernel
theorem dX9_heard_60 : decode cX9_heard 60 = .ok (.goto 5, 3) := by decide +kernel
theorem dX9_heard_63 : decode cX9_heard 63 = .ok (.bipush (-9), 2) := by decide +kernel
theorem dX9_heard_65 : decode cX9_heard 65 = .ok (.ireturn, 1) := by decide +kernel
theorem dX9_sounds_0 : decode cX9_sounds 0 = .ok (.iconst 0, 1) := by decide +kernel
theorem dX9_sounds_1 : decode cX9_sounds 1 = .ok (.istore_n 1, 1) := by decide +kernel
theorem dX9_sounds_2 : decode cX9_sounds 2 = .ok (.iconst 0, 1) := by decide +kernel
theorem dX9_sounds_3 : decode cX9_sounds 3 = .ok (.istore_n 2, 1) := by decide +kernel
theorem dX9_sounds_4 : decode cX9_sounds 4 = .ok (.iload_n 2, 1) := by decide +kernel
theorem dX9_sounds_5 : decode cX9_sounds 5 = .ok (.aload_n 0, 1) := by decide +kernel
theorem dX9_sounds_6 : decode cX9_sounds 6 = .ok (.getfield 7, 3) := by decide +kernel
theorem dX9_sounds_9 : decode cX9_sounds 9 = .ok (.iconst 0, 1) := by decide +kernel
theorem dX9_sounds_10 : decode cX9_sounds 10 = .ok (.iaload, 1) := by decide +kernel
theorem dX9_sounds_11 : decode cX9_sounds 11 = .ok (.if_icmp .ge 25, 3) := by decide +kernel
theorem dX9_sounds_14 : decode cX9_sounds 14 = .ok (.iload_n 1, 1) := by decide +kernel
theorem dX9_sounds_15 : decode cX9_sounds 15 = .ok (.aload_n 0, 1) := by decide +kernel
theorem dX9_sounds_16 : decode cX9_sounds 16 = .ok (.iload_n 2, 1) := by decide +kernel
theorem dX9_sounds_17 : decode cX9_sounds 17 = .ok (.invokevirtual 175, 3) := by decide +kernel
theorem dX9_sounds_20 : decode cX9_sounds 20 = .ok (.ifCond .eq 7, 3) := by decide +kernel
theorem dX9_sounds_23 : decode cX9_sounds 23 = .ok (.iconst 0, 1) := by decide +kernel
theorem dX9_sounds_24 : decode cX9_sounds 24 = .ok (.goto 4, 3) := by decide +kernel
theorem dX9_sounds_27 : decode cX9_sounds 27 = .ok (.iconst 1, 1) := by decide +kernel
theorem dX9_sounds_28 : decode cX9_sounds 28 = .ok (.iadd, 1) := by decide +kernel
theorem dX9_sounds_29 : decode cX9_sounds 29 = .ok (.istore_n 1, 1) := by decide +kernel
theorem dX9_sounds_30 : decode cX9_sounds 30 = .ok (.iinc 2 1, 3) := by decide +kernel
theorem dX9_sounds_33 : decode cX9_sounds 33 = .ok (.goto (-29), 3) := by decide +kernel
theorem dX9_sounds_36 : decode cX9_sounds 36 = .ok (.iload_n 1, 1) := by decide +kernel
theorem dX9_sounds_37 : decode cX9_sounds 37 = .ok (.ireturn, 1) := by decide +kernel
theorem dX9_isNext_0 : decode cX9_isNext 0 = .ok (.aload_n 0, 1) := by decide +kernel
theorem dX9_isNext_1 : decode cX9_isNext 1 = .ok (.getfield 7, 3) := by decide +kernel
theorem dX9_isNext_4 : decode cX9_isNext 4 = .ok (.iconst 0, 1) := by decide +kernel
theorem dX9_isNext_5 : decode cX9_isNext 5 = .ok (.iaload, 1) := by decide +kernel
theorem dX9_isNext_6 : decode cX9_isNext 6 = .ok (.iconst 1, 1) := by decide +kernel
theorem dX9_isNext_7 : decode cX9_isNext 7 = .ok (.isub, 1) := by decide +kernel
theorem dX9_isNext_8 : decode cX9_isNext 8 = .ok (.istore_n 1, 1) := by decide +kernel
theorem dX9_isNext_9 : decode cX9_isNext 9 = .ok (.iload_n 1, 1) := by decide +kernel
theorem dX9_isNext_10 : decode cX9_isNext 10 = .ok (.ifCond .lt 35, 3) := by decide +kernel
theorem dX9_isNext_13 : decode cX9_isNext 13 = .ok (.aload_n 0, 1) := by decide +kernel
theorem dX9_isNext_14 : decode cX9_isNext 14 = .ok (.iload_n 1, 1) := by decide +kernel
theorem dX9_isNext_15 : decode cX9_isNext 15 = .ok (.invokevirtual 175, 3) := by decide +kernel
theorem dX9_isNext_18 : decode cX9_isNext 18 = .ok (.ifCond .ne 14, 3) := by decide +kernel
theorem dX9_isNext_21 : decode cX9_isNext 21 = .ok (.aload_n 0, 1) := by decide +kernel
theorem dX9_isNext_22 : decode cX9_isNext 22 = .ok (.getfield 38, 3) := by decide +kernel
theorem dX9_isNext_25 : decode cX9_isNext 25 = .ok (.iload_n 1, 1) := by decide +kernel
theorem dX9_isNext_26 : decode cX9_isNext 26 = .ok (.iaload, 1) := by decide +kernel
theorem dX9_isNext_27 : decode cX9_isNext 27 = .ok (.bipush 6, 2) := by decide +kernel
theorem dX9_isNext_29 : decode cX9_isNext 29 = .ok (.if_icmp .ne 16, 3) := by decide +kernel
theorem dX9_isNext_32 : decode cX9_isNext 32 = .ok (.aload_n 0, 1) := by decide +kernel
theorem dX9_isNext_33 : decode cX9_isNext 33 = .ok (.getfield 38, 3) := by decide +kernel
theorem dX9_isNext_36 : decode cX9_isNext 36 = .ok (.iload_n 1, 1) := by decide +kernel
theorem dX9_isNext_37 : decode cX9_isNext 37 = .ok (.iconst 0, 1) := by decide +kernel
theorem dX9_isNext_38 : decode cX9_isNext 38 = .ok (.iastore, 1) := by decide +kernel
theorem dX9_isNext_39 : decode cX9_isNext 39 = .ok (.iinc 1 (-1), 3) := by decide +kernel
theorem dX9_isNext_42 : decode cX9_isNext 42 = .ok (.goto (-33), 3) := by decide +kernel
theorem dX9_isNext_45 : decode cX9_isNext 45 = .ok (.iload_n 1, 1) := by decide +kernel
theorem dX9_isNext_46 : decode cX9_isNext 46 = .ok (.ifCond .ge 5, 3) := by decide +kernel
theorem dX9_isNext_49 : decode cX9_isNext 49 = .ok (.iconst 0, 1) := by decide +kernel
theorem dX9_isNext_50 : decode cX9_isNext 50 = .ok (.ireturn, 1) := by decide +kernel
theorem dX9_isNext_51 : decode cX9_isNext 51 = .ok (.aload_n 0, 1) := by decide +kernel
theorem dX9_isNext_52 : decode cX9_isNext 52 = .ok (.getfield 38, 3) := by decide +kernel
theorem dX9_isNext_55 : decode cX9_isNext 55 = .ok (.iload_n 1, 1) := by decide +kernel
theorem dX9_isNext_56 : decode cX9_isNext 56 = .ok (.dup2, 1) := by decide +kernel
theorem dX9_isNext_57 : decode cX9_isNext 57 = .ok (.iaload, 1) := by decide +kernel
theorem dX9_isNext_58 : decode cX9_isNext 58 = .ok (.iconst 1, 1) := by decide +kernel
theorem dX9_isNext_59 : decode cX9_isNext 59 = .ok (.iadd, 1) := by decide +kernel
theorem dX9_isNext_60 : decode cX9_isNext 60 = .ok (.iastore, 1) := by decide +kernel
theorem dX9_isNext_61 : decode cX9_isNext 61 = .ok (.iconst 1, 1) := by decide +kernel
theorem dX9_isNext_62 : decode cX9_isNext 62 = .ok (.ireturn, 1) := by decide +kernel
theorem dX9_begins_0 : decode cX9_begins 0 = .ok (.iconst 0, 1) := by decide +kernel
theorem dX9_begins_1 : decode cX9_begins 1 = .ok (.istore_n 1, 1) := by decide +kernel
theorem dX9_begins_2 : decode cX9_begins 2 = .ok (.iload_n 1, 1) := by decide +kernel
theorem dX9_begins_3 : decode cX9_begins 3 = .ok (.bipush 6, 2) := by decide +kernel
theorem dX9_begins_5 : decode cX9_begins 5 = .ok (.if_icmp .ge 16, 3) := by decide +kernel
theorem dX9_begins_8 : decode cX9_begins 8 = .ok (.aload_n 0, 1) := by decide +kernel
theorem dX9_begins_9 : decode cX9_begins 9 = .ok (.getfield 38, 3) := by decide +kernel
theorem dX9_begins_12 : decode cX9_begins 12 = .ok (.iload_n 1, 1) := by decide +kernel
theorem dX9_begins_13 : decode cX9_begins 13 = .ok (.iconst 0, 1) := by decide +kernel
theorem dX9_begins_14 : decode cX9_begins 14 = .ok (.iastore, 1) := by decide +kernel
theorem dX9_begins_15 : decode cX9_begins 15 = .ok (.iinc 1 1, 3) := by decide +kernel
theorem dX9_begins_18 : decode cX9_begins 18 = .ok (.goto (-16), 3) := by decide +kernel
theorem dX9_begins_21 : decode cX9_begins 21 = .ok (.return_, 1) := by decide +kernel
theorem dX9_isAll_0 : decode cX9_isAll 0 = .ok (.aload_n 0, 1) := by decide +kernel
theorem dX9_isAll_1 : decode cX9_isAll 1 = .ok (.invokevirtual 191, 3) := by decide +kernel
theorem dX9_isAll_4 : decode cX9_isAll 4 = .ok (.aload_n 0, 1) := by decide +kernel
theorem dX9_isAll_5 : decode cX9_isAll 5 = .ok (.getfield 184, 3) := by decide +kernel
theorem dX9_isAll_8 : decode cX9_isAll 8 = .ok (.ifCond .ne 18, 3) := by decide +kernel
theorem dX9_isAll_11 : decode cX9_isAll 11 = .ok (.aload_n 0, 1) := by decide +kernel
theorem dX9_isAll_12 : decode cX9_isAll 12 = .ok (.getfield 188, 3) := by decide +kernel
theorem dX9_isAll_15 : decode cX9_isAll 15 = .ok (.aload_n 0, 1) := by decide +kernel
theorem dX9_isAll_16 : decode cX9_isAll 16 = .ok (.invokevirtual 225, 3) := by decide +kernel
theorem dX9_isAll_19 : decode cX9_isAll 19 = .ok (.if_icmp .ne 7, 3) := by decide +kernel
theorem dX9_isAll_22 : decode cX9_isAll 22 = .ok (.iconst 1, 1) := by decide +kernel
theorem dX9_isAll_23 : decode cX9_isAll 23 = .ok (.goto 4, 3) := by decide +kernel
theorem dX9_isAll_26 : decode cX9_isAll 26 = .ok (.iconst 0, 1) := by decide +kernel
theorem dX9_isAll_27 : decode cX9_isAll 27 = .ok (.ireturn, 1) := by decide +kernel
theorem dX9_keepsBest_0 : decode cX9_keepsBest 0 = .ok (.iconst 0, 1) := by decide +kernel
theorem dX9_keepsBest_1 : decode cX9_keepsBest 1 = .ok (.istore_n 1, 1) := by decide +kernel
theorem dX9_keepsBest_2 : decode cX9_keepsBest 2 = .ok (.iload_n 1, 1) := by decide +kernel
theorem dX9_keepsBest_3 : decode cX9_keepsBest 3 = .ok (.bipush 6, 2) := by decide +kernel
theorem dX9_keepsBest_5 : decode cX9_keepsBest 5 = .ok (.if_icmp .ge 21, 3) := by decide +kernel
theorem dX9_keepsBest_8 : decode cX9_keepsBest 8 = .ok (.aload_n 0, 1) := by decide +kernel
theorem dX9_keepsBest_9 : decode cX9_keepsBest 9 = .ok (.getfield 58, 3) := by decide +kernel
theorem dX9_keepsBest_12 : decode cX9_keepsBest 12 = .ok (.iload_n 1, 1) := by decide +kernel
theorem dX9_keepsBest_13 : decode cX9_keepsBest 13 = .ok (.aload_n 0, 1) := by decide +kernel
theorem dX9_keepsBest_14 : decode cX9_keepsBest 14 = .ok (.getfield 38, 3) := by decide +kernel
theorem dX9_keepsBest_17 : decode cX9_keepsBest 17 = .ok (.iload_n 1, 1) := by decide +kernel
theorem dX9_keepsBest_18 : decode cX9_keepsBest 18 = .ok (.iaload, 1) := by decide +kernel
theorem dX9_keepsBest_19 : decode cX9_keepsBest 19 = .ok (.iastore, 1) := by decide +kernel
theorem dX9_keepsBest_20 : decode cX9_keepsBest 20 = .ok (.iinc 1 1, 3) := by decide +kernel
theorem dX9_keepsBest_23 : decode cX9_keepsBest 23 = .ok (.goto (-21), 3) := by decide +kernel
theorem dX9_keepsBest_26 : decode cX9_keepsBest 26 = .ok (.return_, 1) := by decide +kernel
theorem dX9_tellsBest_0 : decode cX9_tellsBest 0 = .ok (.aload_n 0, 1) := by decide +kernel
theorem dX9_tellsBest_1 : decode cX9_tellsBest 1 = .ok (.iload_n 1, 1) := by decide +kernel
theorem dX9_tellsBest_2 : decode cX9_tellsBest 2 = .ok (.aload_n 0, 1) := by decide +kernel
theorem dX9_tellsBest_3 : decode cX9_tellsBest 3 = .ok (.getfield 7, 3) := by decide +kernel
theorem dX9_tellsBest_6 : decode cX9_tellsBest 6 = .ok (.iconst 0, 1) := by decide +kernel
theorem dX9_tellsBest_7 : decode cX9_tellsBest 7 = .ok (.iaload, 1) := by decide +kernel
theorem dX9_tellsBest_8 : decode cX9_tellsBest 8 = .ok (.invokevirtual 97, 3) := by decide +kernel
theorem dX9_tellsBest_11 : decode cX9_tellsBest 11 = .ok (.iconst 0, 1) := by decide +kernel
theorem dX9_tellsBest_12 : decode cX9_tellsBest 12 = .ok (.istore_n 2, 1) := by decide +kernel
theorem dX9_tellsBest_13 : decode cX9_tellsBest 13 = .ok (.iload_n 2, 1) := by decide +kernel
theorem dX9_tellsBest_14 : decode cX9_tellsBest 14 = .ok (.aload_n 0, 1) := by decide +kernel
theorem dX9_tellsBest_15 : decode cX9_tellsBest 15 = .ok (.getfield 7, 3) := by decide +kernel
theorem dX9_tellsBest_18 : decode cX9_tellsBest 18 = .ok (.iconst 0, 1) := by decide +kernel
theorem dX9_tellsBest_19 : decode cX9_tellsBest 19 = .ok (.iaload, 1) := by decide +kernel
theorem dX9_tellsBest_20 : decode cX9_tellsBest 20 = .ok (.if_icmp .ge 26, 3) := by decide +kernel
theorem dX9_tellsBest_23 : decode cX9_tellsBest 23 = .ok (.aload_n 0, 1) := by decide +kernel
theorem dX9_tellsBest_24 : decode cX9_tellsBest 24 = .ok (.getfield 16, 3) := by decide +kernel
theorem dX9_tellsBest_27 : decode cX9_tellsBest 27 = .ok (.bipush 40, 2) := by decide +kernel
theorem dX9_tellsBest_29 : decode cX9_tellsBest 29 = .ok (.iload_n 1, 1) := by decide +kernel
theorem dX9_tellsBest_30 : decode cX9_tellsBest 30 = .ok (.imul, 1) := by decide +kernel
theorem dX9_tellsBest_31 : decode cX9_tellsBest 31 = .ok (.iload_n 2, 1) := by decide +kernel
theorem dX9_tellsBest_32 : decode cX9_tellsBest 32 = .ok (.iadd, 1) := by decide +kernel
theorem dX9_tellsBest_33 : decode cX9_tellsBest 33 = .ok (.aload_n 0, 1) := by decide +kernel
theorem dX9_tellsBest_34 : decode cX9_tellsBest 34 = .ok (.getfield 58, 3) := by decide +kernel
theorem dX9_tellsBest_37 : decode cX9_tellsBest 37 = .ok (.iload_n 2, 1) := by decide +kernel
theorem dX9_tellsBest_38 : decode cX9_tellsBest 38 = .ok (.iaload, 1) := by decide +kernel
theorem dX9_tellsBest_39 : decode cX9_tellsBest 39 = .ok (.iastore, 1) := by decide +kernel
theorem dX9_tellsBest_40 : decode cX9_tellsBest 40 = .ok (.iinc 2 1, 3) := by decide +kernel
theorem dX9_tellsBest_43 : decode cX9_tellsBest 43 = .ok (.goto (-30), 3) := by decide +kernel
theorem dX9_tellsBest_46 : decode cX9_tellsBest 46 = .ok (.return_, 1) := by decide +kernel
theorem dX9_even_0 : decode cX9_even 0 = .ok (.iload_n 1, 1) := by decide +kernel
theorem dX9_even_1 : decode cX9_even 1 = .ok (.invokestatic 89, 3) := by decide +kernel
theorem dX9_even_4 : decode cX9_even 4 = .ok (.ifCond .ne 5, 3) := by decide +kernel
theorem dX9_even_7 : decode cX9_even 7 = .ok (.iconst (-1), 1) := by decide +kernel
theorem dX9_even_8 : decode cX9_even 8 = .ok (.ireturn, 1) := by decide +kernel
theorem dX9_even_9 : decode cX9_even 9 = .ok (.aload_n 0, 1) := by decide +kernel
theorem dX9_even_10 : decode cX9_even 10 = .ok (.getfield 7, 3) := by decide +kernel
theorem dX9_even_13 : decode cX9_even 13 = .ok (.iconst 0, 1) := by decide +kernel
theorem dX9_even_14 : decode cX9_even 14 = .ok (.iaload, 1) := by decide +kernel
theorem dX9_even_15 : decode cX9_even 15 = .ok (.ifCond .ne 6, 3) := by decide +kernel
theorem dX9_even_18 : decode cX9_even 18 = .ok (.bipush (-4), 2) := by decide +kernel
theorem dX9_even_20 : decode cX9_even 20 = .ok (.ireturn, 1) := by decide +kernel
theorem dX9_even_21 : decode cX9_even 21 = .ok (.ldc 219, 2) := by decide +kernel
theorem dX9_even_23 : decode cX9_even 23 = .ok (.istore_n 2, 1) := by decide +kernel
theorem dX9_even_24 : decode cX9_even 24 = .ok (.aload_n 0, 1) := by decide +kernel
theorem dX9_even_25 : decode cX9_even 25 = .ok (.invokevirtual 228, 3) := by decide +kernel
theorem dX9_even_28 : decode cX9_even 28 = .ok (.iconst 1, 1) := by decide +kernel
theorem dX9_even_29 : decode cX9_even 29 = .ok (.istore_n 3, 1) := by decide +kernel
theorem dX9_even_30 : decode cX9_even 30 = .ok (.iload_n 3, 1) := by decide +kernel
theorem dX9_even_31 : decode cX9_even 31 = .ok (.ifCond .eq 35, 3) := by decide +kernel
theorem dX9_even_34 : decode cX9_even 34 = .ok (.aload_n 0, 1) := by decide +kernel
theorem dX9_even_35 : decode cX9_even 35 = .ok (.invokevirtual 231, 3) := by decide +kernel
theorem dX9_even_38 : decode cX9_even 38 = .ok (.ifCond .eq 20, 3) := by decide +kernel
theorem dX9_even_41 : decode cX9_even 41 = .ok (.aload_n 0, 1) := by decide +kernel
theorem dX9_even_42 : decode cX9_even 42 = .ok (.invokevirtual 222, 3) := by decide +kernel
theorem dX9_even_45 : decode cX9_even 45 = .ok (.iload_n 2, 1) := by decide +kernel
theorem dX9_even_46 : decode cX9_even 46 = .ok (.if_icmp .ge 12, 3) := by decide +kernel
theorem dX9_even_49 : decode cX9_even 49 = .ok (.aload_n 0, 1) := by decide +kernel
theorem dX9_even_50 : decode cX9_even 50 = .ok (.invokevirtual 222, 3) := by decide +kernel
theorem dX9_even_53 : decode cX9_even 53 = .ok (.istore_n 2, 1) := by decide +kernel
theorem dX9_even_54 : decode cX9_even 54 = .ok (.aload_n 0, 1) := by decide +kernel
theorem dX9_even_55 : decode cX9_even 55 = .ok (.invokevirtual 235, 3) := by decide +kernel
theorem dX9_even_58 : decode cX9_even 58 = .ok (.aload_n 0, 1) := by decide +kernel
theorem dX9_even_59 : decode cX9_even 59 = .ok (.invokevirtual 238, 3) := by decide +kernel
theorem dX9_even_62 : decode cX9_even 62 = .ok (.istore_n 3, 1) := by decide +kernel
theorem dX9_even_63 : decode cX9_even 63 = .ok (.goto (-33), 3) := by decide +kernel
theorem dX9_even_66 : decode cX9_even 66 = .ok (.iload_n 2, 1) := by decide +kernel
theorem dX9_even_67 : decode cX9_even 67 = .ok (.ldc 219, 2) := by decide +kernel
theorem dX9_even_69 : decode cX9_even 69 = .ok (.if_icmp .ne 6, 3) := by decide +kernel
theorem dX9_even_72 : decode cX9_even 72 = .ok (.bipush (-9), 2) := by decide +kernel
theorem dX9_even_74 : decode cX9_even 74 = .ok (.ireturn, 1) := by decide +kernel
theorem dX9_even_75 : decode cX9_even 75 = .ok (.aload_n 0, 1) := by decide +kernel
theorem dX9_even_76 : decode cX9_even 76 = .ok (.iload_n 1, 1) := by decide +kernel
theorem dX9_even_77 : decode cX9_even 77 = .ok (.invokevirtual 241, 3) := by decide +kernel
theorem dX9_even_80 : decode cX9_even 80 = .ok (.iload_n 2, 1) := by decide +kernel
theorem dX9_even_81 : decode cX9_even 81 = .ok (.ireturn, 1) := by decide +kernel
theorem dX9_change_0 : decode cX9_change 0 = .ok (.iload_n 1, 1) := by decide +kernel
theorem dX9_change_1 : decode cX9_change 1 = .ok (.invokestatic 89, 3) := by decide +kernel
theorem dX9_change_4 : decode cX9_change 4 = .ok (.ifCond .eq 10, 3) := by decide +kernel
theorem dX9_change_7 : decode cX9_change 7 = .ok (.iload_n 2, 1) := by decide +kernel
theorem dX9_change_8 : decode cX9_change 8 = .ok (.invokestatic 89, 3) := by decide +kernel
theorem dX9_change_11 : decode cX9_change 11 = .ok (.ifCond .ne 5, 3) := by decide +kernel
theorem dX9_change_14 : decode cX9_change 14 = .ok (.iconst (-1), 1) := by decide +kernel
theorem dX9_change_15 : decode cX9_change 15 = .ok (.ireturn, 1) := by decide +kernel
theorem dX9_change_16 : decode cX9_change 16 = .ok (.aload_n 0, 1) := by decide +kernel
theorem dX9_change_17 : decode cX9_change 17 = .ok (.getfield 7, 3) := by decide +kernel
theorem dX9_change_20 : decode cX9_change 20 = .ok (.iconst 0, 1) := by decide +kernel
theorem dX9_change_21 : decode cX9_change 21 = .ok (.iaload, 1) := by decide +kernel
theorem dX9_change_22 : decode cX9_change 22 = .ok (.ifCond .ne 6, 3) := by decide +kernel
theorem dX9_change_25 : decode cX9_change 25 = .ok (.bipush (-4), 2) := by decide +kernel
theorem dX9_change_27 : decode cX9_change 27 = .ok (.ireturn, 1) := by decide +kernel
theorem dX9_change_28 : decode cX9_change 28 = .ok (.aload_n 0, 1) := by decide +kernel
theorem dX9_change_29 : decode cX9_change 29 = .ok (.getfield 19, 3) := by decide +kernel
theorem dX9_change_32 : decode cX9_change 32 = .ok (.iload_n 1, 1) := by decide +kernel
theorem dX9_change_33 : decode cX9_change 33 = .ok (.iaload, 1) := by decide +kernel
theorem dX9_change_34 : decode cX9_change 34 = .ok (.ifCond .ge 9, 3) := by decide +kernel
theorem dX9_change_37 : decode cX9_change 37 = .ok (.aload_n 0, 1) := by decide +kernel
theorem dX9_change_38 : decode cX9_change 38 = .ok (.iconst 1, 1) := by decide +kernel
theorem dX9_change_39 : decode cX9_change 39 = .ok (.invokevirtual 93, 3) := by decide +kernel
theorem dX9_change_42 : decode cX9_change 42 = .ok (.ireturn, 1) := by decide +kernel
theorem dX9_change_43 : decode cX9_change 43 = .ok (.aload_n 0, 1) := by decide +kernel
theorem dX9_change_44 : decode cX9_change 44 = .ok (.invokevirtual 225, 3) := by decide +kernel
theorem dX9_change_47 : decode cX9_change 47 = .ok (.istore_n 3, 1) := by decide +kernel
theorem dX9_change_48 : decode cX9_change 48 = .ok (.aload_n 0, 1) := by decide +kernel
theorem dX9_change_49 : decode cX9_change 49 = .ok (.getfield 19, 3) := by decide +kernel
theorem dX9_change_52 : decode cX9_change 52 = .ok (.iload_n 1, 1) := by decide +kernel
theorem dX9_change_53 : decode cX9_change 53 = .ok (.iaload, 1) := by decide +kernel
theorem dX9_change_54 : decode cX9_change 54 = .ok (.iload_n 3, 1) := by decide +kernel
theorem dX9_change_55 : decode cX9_change 55 = .ok (.if_icmp .eq 9, 3) := by decide +kernel
theorem dX9_change_58 : decode cX9_change 58 = .ok (.aload_n 0, 1) := by decide +kernel
theorem dX9_change_59 : decode cX9_change 59 = .ok (.iconst 5, 1) := by decide +kernel
theorem dX9_change_60 : decode cX9_change 60 = .ok (.invokevirtual 93, 3) := by decide +kernel
theorem dX9_change_63 : decode cX9_change 63 = .ok (.ireturn, 1) := by decide +kernel
theorem dX9_change_64 : decode cX9_change 64 = .ok (.iconst 0, 1) := by decide +kernel
theorem dX9_change_65 : decode cX9_change 65 = .ok (.istore 4, 2) := by decide +kernel
theorem dX9_change_67 : decode cX9_change 67 = .ok (.iconst 0, 1) := by decide +kernel
theorem dX9_change_68 : decode cX9_change 68 = .ok (.istore 5, 2) := by decide +kernel
theorem dX9_change_70 : decode cX9_change 70 = .ok (.iload 5, 2) := by decide +kernel
theorem dX9_change_72 : decode cX9_change 72 = .ok (.iload_n 3, 1) := by decide +kernel
theorem dX9_change_73 : decode cX9_change 73 = .ok (.if_icmp .ge 66, 3) := by decide +kernel
theorem dX9_change_76 : decode cX9_change 76 = .ok (.aload_n 0, 1) := by decide +kernel
theorem dX9_change_77 : decode cX9_change 77 = .ok (.getfield 16, 3) := by decide +kernel
theorem dX9_change_80 : decode cX9_change 80 = .ok (.bipush 40, 2) := by decide +kernel
theorem dX9_change_82 : decode cX9_change 82 = .ok (.iload_n 1, 1) := by decide +kernel
theorem dX9_change_83 : decode cX9_change 83 = .ok (.imul, 1) := by decide +kernel
theorem dX9_change_84 : decode cX9_change 84 = .ok (.iload 5, 2) := by decide +kernel
theorem dX9_change_86 : decode cX9_change 86 = .ok (.iadd, 1) := by decide +kernel
theorem dX9_change_87 : decode cX9_change 87 = .ok (.iaload, 1) := by decide +kernel
theorem dX9_change_88 : decode cX9_change 88 = .ok (.istore 6, 2) := by decide +kernel
theorem dX9_change_90 : decode cX9_change 90 = .ok (.aload_n 0, 1) := by decide +kernel
theorem dX9_change_91 : decode cX9_change 91 = .ok (.iload 6, 2) := by decide +kernel
theorem dX9_change_93 : decode cX9_change 93 = .ok (.invokevirtual 145, 3) := by decide +kernel
theorem dX9_change_96 : decode cX9_change 96 = .ok (.ifCond .eq 22, 3) := by decide +kernel
theorem dX9_change_99 : decode cX9_change 99 = .ok (.aload_n 0, 1) := by decide +kernel
theorem dX9_change_100 : decode cX9_change 100 = .ok (.iload 6, 2) := by decide +kernel
theorem dX9_change_102 : decode cX9_change 102 = .ok (.invokevirtual 175, 3) := by decide +kernel
theorem dX9_change_105 : decode cX9_change 105 = .ok (.ifCond .ne 13, 3) := by decide +kernel
theorem dX9_change_108 : decode cX9_change 108 = .ok (.iload 4, 2) := by decide +kernel
theorem dX9_change_110 : decode cX9_change 110 = .ok (.iload 6, 2) := by decide +kernel
theorem dX9_change_112 : decode cX9_change 112 = .ok (.invokestatic 244, 3) := by decide +kernel
theorem dX9_change_115 : decode cX9_change 115 = .ok (.ifCond .eq 9, 3) := by decide +kernel
theorem dX9_change_118 : decode cX9_change 118 = .ok (.aload_n 0, 1) := by decide +kernel
theorem dX9_change_119 : decode cX9_change 119 = .ok (.iconst 3, 1) := by decide +kernel
theorem dX9_change_120 : decode cX9_change 120 = .ok (.invokevirtual 93, 3) := by decide +kernel
theorem dX9_change_123 : decode cX9_change 123 = .ok (.ireturn, 1) := by decide +kernel
theorem dX9_change_124 : decode cX9_change 124 = .ok (.iload 4, 2) := by decide +kernel
theorem dX9_change_126 : decode cX9_change 126 = .ok (.iconst 1, 1) := by decide +kernel
theorem dX9_change_127 : decode cX9_change 127 = .ok (.iload 6, 2) := by decide +kernel
theorem dX9_change_129 : decode cX9_change 129 = .ok (.ishl, 1) := by decide +kernel
theorem dX9_change_130 : decode cX9_change 130 = .ok (.ior, 1) := by decide +kernel
theorem dX9_change_131 : decode cX9_change 131 = .ok (.istore 4, 2) := by decide +kernel
theorem dX9_change_133 : decode cX9_change 133 = .ok (.iinc 5 1, 3) := by decide +kernel
theorem dX9_change_136 : decode cX9_change 136 = .ok (.goto (-66), 3) := by decide +kernel
theorem dX9_change_139 : decode cX9_change 139 = .ok (.aload_n 0, 1) := by decide +kernel
theorem dX9_change_140 : decode cX9_change 140 = .ok (.invokevirtual 228, 3) := by decide +kernel
theorem dX9_change_143 : decode cX9_change 143 = .ok (.iconst 1, 1) := by decide +kernel
theorem dX9_change_144 : decode cX9_change 144 = .ok (.istore 5, 2) := by decide +kernel
theorem dX9_change_146 : decode cX9_change 146 = .ok (.iload 5, 2) := by decide +kernel
theorem dX9_change_148 : decode cX9_change 148 = .ok (.ifCond .eq 90, 3) := by decide +kernel
theorem dX9_change_151 : decode cX9_change 151 = .ok (.aload_n 0, 1) := by decide +kernel
theorem dX9_change_152 : decode cX9_change 152 = .ok (.invokevirtual 231, 3) := by decide +kernel
theorem dX9_change_155 : decode cX9_change 155 = .ok (.istore 6, 2) := by decide +kernel
theorem dX9_change_157 : decode cX9_change 157 = .ok (.iconst 0, 1) := by decide +kernel
theorem dX9_change_158 : decode cX9_change 158 = .ok (.istore 7, 2) := by decide +kernel
theorem dX9_change_160 : decode cX9_change 160 = .ok (.iload 7, 2) := by decide +kernel
theorem dX9_change_162 : decode cX9_change 162 = .ok (.iload_n 3, 1) := by decide +kernel
theorem dX9_change_163 : decode cX9_change 163 = .ok (.if_icmp .ge 43, 3) := by decide +kernel
theorem dX9_change_166 : decode cX9_change 166 = .ok (.iload 6, 2) := by decide +kernel
theorem dX9_change_168 : decode cX9_change 168 = .ok (.ifCond .eq 38, 3) := by decide +kernel
theorem dX9_change_171 : decode cX9_change 171 = .ok (.aload_n 0, 1) := by decide +kernel
theorem dX9_change_172 : decode cX9_change 172 = .ok (.getfield 44, 3) := by decide +kernel
theorem dX9_change_175 : decode cX9_change 175 = .ok (.iload 7, 2) := by decide +kernel
theorem dX9_change_177 : decode cX9_change 177 = .ok (.iaload, 1) := by decide +kernel
theorem dX9_change_178 : decode cX9_change 178 = .ok (.aload_n 0, 1) := by decide +kernel
theorem dX9_change_179 : decode cX9_change 179 = .ok (.getfield 16, 3) := by decide +kernel
theorem dX9_change_182 : decode cX9_change 182 = .ok (.bipush 40, 2) := by decide +kernel
theorem dX9_change_184 : decode cX9_change 184 = .ok (.iload_n 1, 1) := by decide +kernel
theorem dX9_change_185 : decode cX9_change 185 = .ok (.imul, 1) := by decide +kernel
theorem dX9_change_186 : decode cX9_change 186 = .ok (.iload 7, 2) := by decide +kernel
theorem dX9_change_188 : decode cX9_change 188 = .ok (.iadd, 1) := by decide +kernel
theorem dX9_change_189 : decode cX9_change 189 = .ok (.iaload, 1) := by decide +kernel
theorem dX9_change_190 : decode cX9_change 190 = .ok (.if_icmp .ne 7, 3) := by decide +kernel
theorem dX9_change_193 : decode cX9_change 193 = .ok (.iconst 1, 1) := by decide +kernel
theorem dX9_change_194 : decode cX9_change 194 = .ok (.goto 4, 3) := by decide +kernel
theorem dX9_change_197 : decode cX9_change 197 = .ok (.iconst 0, 1) := by decide +kernel
theorem dX9_change_198 : decode cX9_change 198 = .ok (.istore 6, 2) := by decide +kernel
theorem dX9_change_200 : decode cX9_change 200 = .ok (.iinc 7 1, 3) := by decide +kernel
theorem dX9_change_203 : decode cX9_change 203 = .ok (.goto (-43), 3) := by decide +kernel
theorem dX9_change_206 : decode cX9_change 206 = .ok (.iload 6, 2) := by decide +kernel
theorem dX9_change_208 : decode cX9_change 208 = .ok (.ifCond .eq 21, 3) := by decide +kernel
theorem dX9_change_211 : decode cX9_change 211 = .ok (.aload_n 0, 1) := by decide +kernel
theorem dX9_change_212 : decode cX9_change 212 = .ok (.invokevirtual 222, 3) := by decide +kernel
theorem dX9_change_215 : decode cX9_change 215 = .ok (.istore 7, 2) := by decide +kernel
theorem dX9_change_217 : decode cX9_change 217 = .ok (.aload_n 0, 1) := by decide +kernel
theorem dX9_change_218 : decode cX9_change 218 = .ok (.invokevirtual 235, 3) := by decide +kernel
theorem dX9_change_221 : decode cX9_change 221 = .ok (.aload_n 0, 1) := by decide +kernel
theorem dX9_change_222 : decode cX9_change 222 = .ok (.iload_n 2, 1) := by decide +kernel
theorem dX9_change_223 : decode cX9_change 223 = .ok (.invokevirtual 241, 3) := by decide +kernel
theorem dX9_change_226 : decode cX9_change 226 = .ok (.iload 7, 2) := by decide +kernel
theorem dX9_change_228 : decode cX9_change 228 = .ok (.ireturn, 1) := by decide +kernel
theorem dX9_change_229 : decode cX9_change 229 = .ok (.aload_n 0, 1) := by decide +kernel
theorem dX9_change_230 : decode cX9_change 230 = .ok (.invokevirtual 238, 3) := by decide +kernel
theorem dX9_change_233 : decode cX9_change 233 = .ok (.istore 5, 2) := by decide +kernel
theorem dX9_change_235 : decode cX9_change 235 = .ok (.goto (-89), 3) := by decide +kernel
theorem dX9_change_238 : decode cX9_change 238 = .ok (.bipush (-9), 2) := by decide +kernel
theorem dX9_change_240 : decode cX9_change 240 = .ok (.ireturn, 1) := by decide +kernel
theorem dX9_orders_0 : decode cX9_orders 0 = .ok (.aload_n 0, 1) := by decide +kernel
theorem dX9_orders_1 : decode cX9_orders 1 = .ok (.getfield 7, 3) := by decide +kernel
theorem dX9_orders_4 : decode cX9_orders 4 = .ok (.iconst 0, 1) := by decide +kernel
theorem dX9_orders_5 : decode cX9_orders 5 = .ok (.iaload, 1) := by decide +kernel
theorem dX9_orders_6 : decode cX9_orders 6 = .ok (.ifCond .ne 6, 3) := by decide +kernel
theorem dX9_orders_9 : decode cX9_orders 9 = .ok (.bipush (-4), 2) := by decide +kernel
theorem dX9_orders_11 : decode cX9_orders 11 = .ok (.ireturn, 1) := by decide +kernel
theorem dX9_orders_12 : decode cX9_orders 12 = .ok (.iconst 0, 1) := by decide +kernel
theorem dX9_orders_13 : decode cX9_orders 13 = .ok (.istore_n 1, 1) := by decide +kernel
theorem dX9_orders_14 : decode cX9_orders 14 = .ok (.iload_n 1, 1) := by decide +kernel
theorem dX9_orders_15 : decode cX9_orders 15 = .ok (.ldc 61, 2) := by decide +kernel
theorem dX9_orders_17 : decode cX9_orders 17 = .ok (.if_icmp .ge 16, 3) := by decide +kernel
theorem dX9_orders_20 : decode cX9_orders 20 = .ok (.aload_n 0, 1) := by decide +kernel
theorem dX9_orders_21 : decode cX9_orders 21 = .ok (.getfield 62, 3) := by decide +kernel
theorem dX9_orders_24 : decode cX9_orders 24 = .ok (.iload_n 1, 1) := by decide +kernel
theorem dX9_orders_25 : decode cX9_orders 25 = .ok (.iconst 0, 1) := by decide +kernel
theorem dX9_orders_26 : decode cX9_orders 26 = .ok (.bastore, 1) := by decide +kernel
theorem dX9_orders_27 : decode cX9_orders 27 = .ok (.iinc 1 1, 3) := by decide +kernel
theorem dX9_orders_30 : decode cX9_orders 30 = .ok (.goto (-16), 3) := by decide +kernel
theorem dX9_orders_33 : decode cX9_orders 33 = .ok (.iconst 0, 1) := by decide +kernel
theorem dX9_orders_34 : decode cX9_orders 34 = .ok (.istore_n 1, 1) := by decide +kernel
theorem dX9_orders_35 : decode cX9_orders 35 = .ok (.aload_n 0, 1) := by decide +kernel
theorem dX9_orders_36 : decode cX9_orders 36 = .ok (.invokevirtual 228, 3) := by decide +kernel
theorem dX9_orders_39 : decode cX9_orders 39 = .ok (.iconst 1, 1) := by decide +kernel
theorem dX9_orders_40 : decode cX9_orders 40 = .ok (.istore_n 2, 1) := by decide +kernel
theorem dX9_orders_41 : decode cX9_orders 41 = .ok (.iload_n 2, 1) := by decide +kernel
theorem dX9_orders_42 : decode cX9_orders 42 = .ok (.ifCond .eq 75, 3) := by decide +kernel
theorem dX9_orders_45 : decode cX9_orders 45 = .ok (.aload_n 0, 1) := by decide +kernel
theorem dX9_orders_46 : decode cX9_orders 46 = .ok (.invokevirtual 231, 3) := by decide +kernel
theorem dX9_orders_49 : decode cX9_orders 49 = .ok (.ifCond .eq 60, 3) := by decide +kernel
theorem dX9_orders_52 : decode cX9_orders 52 = .ok (.iconst 0, 1) := by decide +kernel
theorem dX9_orders_53 : decode cX9_orders 53 = .ok (.istore_n 3, 1) := by decide +kernel
theorem dX9_orders_54 : decode cX9_orders 54 = .ok (.iconst 0, 1) := by decide +kernel
theorem dX9_orders_55 : decode cX9_orders 55 = .ok (.istore 4, 2) := by decide +kernel
theorem dX9_orders_57 : decode cX9_orders 57 = .ok (.iload 4, 2) := by decide +kernel
theorem dX9_orders_59 : decode cX9_orders 59 = .ok (.aload_n 0, 1) := by decide +kernel
theorem dX9_orders_60 : decode cX9_orders 60 = .ok (.getfield 188, 3) := by decide +kernel
theorem dX9_orders_63 : decode cX9_orders 63 = .ok (.if_icmp .ge 22, 3) := by decide +kernel
theorem dX9_orders_66 : decode cX9_orders 66 = .ok (.bipush 6, 2) := by decide +kernel
theorem dX9_orders_68 : decode cX9_orders 68 = .ok (.iload_n 3, 1) := by decide +kernel
theorem dX9_orders_69 : decode cX9_orders 69 = .ok (.imul, 1) := by decide +kernel
theorem dX9_orders_70 : decode cX9_orders 70 = .ok (.aload_n 0, 1) := by decide +kernel
theorem dX9_orders_71 : decode cX9_orders 71 = .ok (.getfield 44, 3) := by decide +kernel
theorem dX9_orders_74 : decode cX9_orders 74 = .ok (.iload 4, 2) := by decide +kernel
theorem dX9_orders_76 : decode cX9_orders 76 = .ok (.iaload, 1) := by decide +kernel
theorem dX9_orders_77 : decode cX9_orders 77 = .ok (.iadd, 1) := by decide +kernel
theorem dX9_orders_78 : decode cX9_orders 78 = .ok (.istore_n 3, 1) := by decide +kernel
theorem dX9_orders_79 : decode cX9_orders 79 = .ok (.iinc 4 1, 3) := by decide +kernel
theorem dX9_orders_82 : decode cX9_orders 82 = .ok (.goto (-25), 3) := by decide +kernel
theorem dX9_orders_85 : decode cX9_orders 85 = .ok (.iload_n 1, 1) := by decide +kernel
theorem dX9_orders_86 : decode cX9_orders 86 = .ok (.aload_n 0, 1) := by decide +kernel
theorem dX9_orders_87 : decode cX9_orders 87 = .ok (.getfield 62, 3) := by decide +kernel
theorem dX9_orders_90 : decode cX9_orders 90 = .ok (.iload_n 3, 1) := by decide +kernel
theorem dX9_orders_91 : decode cX9_orders 91 = .ok (.baload, 1) := by decide +kernel
theorem dX9_orders_92 : decode cX9_orders 92 = .ok (.ifCond .eq 7, 3) := by decide +kernel
theorem dX9_orders_95 : decode cX9_orders 95 = .ok (.iconst 0, 1) := by decide +kernel
theorem dX9_orders_96 : decode cX9_orders 96 = .ok (.goto 4, 3) := by decide +kernel
theorem dX9_orders_99 : decode cX9_orders 99 = .ok (.iconst 1, 1) := by decide +kernel
theorem dX9_orders_100 : decode cX9_orders 100 = .ok (.iadd, 1) := by decide +kernel
theorem dX9_orders_101 : decode cX9_orders 101 = .ok (.istore_n 1, 1) := by decide +kernel
theorem dX9_orders_102 : decode cX9_orders 102 = .ok (.aload_n 0, 1) := by decide +kernel
theorem dX9_orders_103 : decode cX9_orders 103 = .ok (.getfield 62, 3) := by decide +kernel
theorem dX9_orders_106 : decode cX9_orders 106 = .ok (.iload_n 3, 1) := by decide +kernel
theorem dX9_orders_107 : decode cX9_orders 107 = .ok (.iconst 1, 1) := by decide +kernel
theorem dX9_orders_108 : decode cX9_orders 108 = .ok (.bastore, 1) := by decide +kernel
theorem dX9_orders_109 : decode cX9_orders 109 = .ok (.aload_n 0, 1) := by decide +kernel
theorem dX9_orders_110 : decode cX9_orders 110 = .ok (.invokevirtual 238, 3) := by decide +kernel
theorem dX9_orders_113 : decode cX9_orders 113 = .ok (.istore_n 2, 1) := by decide +kernel
theorem dX9_orders_114 : decode cX9_orders 114 = .ok (.goto (-73), 3) := by decide +kernel
theorem dX9_orders_117 : decode cX9_orders 117 = .ok (.iload_n 1, 1) := by decide +kernel
theorem dX9_orders_118 : decode cX9_orders 118 = .ok (.ireturn, 1) := by decide +kernel
theorem dX9_late_0 : decode cX9_late 0 = .ok (.aload_n 0, 1) := by decide +kernel
theorem dX9_late_1 : decode cX9_late 1 = .ok (.iload_n 1, 1) := by decide +kernel
theorem dX9_late_2 : decode cX9_late 2 = .ok (.invokevirtual 197, 3) := by decide +kernel
theorem dX9_late_5 : decode cX9_late 5 = .ok (.istore_n 2, 1) := by decide +kernel
theorem dX9_late_6 : decode cX9_late 6 = .ok (.iload_n 2, 1) := by decide +kernel
theorem dX9_late_7 : decode cX9_late 7 = .ok (.ifCond .ge 5, 3) := by decide +kernel
theorem dX9_late_10 : decode cX9_late 10 = .ok (.iload_n 2, 1) := by decide +kernel
theorem dX9_late_11 : decode cX9_late 11 = .ok (.ireturn, 1) := by decide +kernel
theorem dX9_late_12 : decode cX9_late 12 = .ok (.aload_n 0, 1) := by decide +kernel
theorem dX9_late_13 : decode cX9_late 13 = .ok (.iload_n 1, 1) := by decide +kernel
theorem dX9_late_14 : decode cX9_late 14 = .ok (.invokevirtual 200, 3) := by decide +kernel
theorem dX9_late_17 : decode cX9_late 17 = .ok (.aload_n 0, 1) := by decide +kernel
theorem dX9_late_18 : decode cX9_late 18 = .ok (.getfield 188, 3) := by decide +kernel
theorem dX9_late_21 : decode cX9_late 21 = .ok (.iconst 2, 1) := by decide +kernel
theorem dX9_late_22 : decode cX9_late 22 = .ok (.if_icmp .ge 6, 3) := by decide +kernel
theorem dX9_late_25 : decode cX9_late 25 = .ok (.bipush (-9), 2) := by decide +kernel
theorem dX9_late_27 : decode cX9_late 27 = .ok (.ireturn, 1) := by decide +kernel
theorem dX9_late_28 : decode cX9_late 28 = .ok (.iconst 1, 1) := by decide +kernel
theorem dX9_late_29 : decode cX9_late 29 = .ok (.istore_n 3, 1) := by decide +kernel
theorem dX9_late_30 : decode cX9_late 30 = .ok (.iconst 2, 1) := by decide +kernel
theorem dX9_late_31 : decode cX9_late 31 = .ok (.istore 4, 2) := by decide +kernel
theorem dX9_late_33 : decode cX9_late 33 = .ok (.iload 4, 2) := by decide +kernel
theorem dX9_late_35 : decode cX9_late 35 = .ok (.aload_n 0, 1) := by decide +kernel
theorem dX9_late_36 : decode cX9_late 36 = .ok (.getfield 188, 3) := by decide +kernel
theorem dX9_late_39 : decode cX9_late 39 = .ok (.if_icmp .ge 30, 3) := by decide +kernel
theorem dX9_late_42 : decode cX9_late 42 = .ok (.aload_n 0, 1) := by decide +kernel
theorem dX9_late_43 : decode cX9_late 43 = .ok (.iload 4, 2) := by decide +kernel
theorem dX9_late_45 : decode cX9_late 45 = .ok (.invokevirtual 194, 3) := by decide +kernel
theorem dX9_late_48 : decode cX9_late 48 = .ok (.aload_n 0, 1) := by decide +kernel
theorem dX9_late_49 : decode cX9_late 49 = .ok (.iload_n 3, 1) := by decide +kernel
theorem dX9_late_50 : decode cX9_late 50 = .ok (.invokevirtual 194, 3) := by decide +kernel
theorem dX9_late_53 : decode cX9_late 53 = .ok (.if_icmp .le 8, 3) := by decide +kernel
theorem dX9_late_56 : decode cX9_late 56 = .ok (.iload 4, 2) := by decide +kernel
theorem dX9_late_58 : decode cX9_late 58 = .ok (.goto 4, 3) := by decide +kernel
theorem dX9_late_61 : decode cX9_late 61 = .ok (.iload_n 3, 1) := by decide +kernel
theorem dX9_late_62 : decode cX9_late 62 = .ok (.istore_n 3, 1) := by decide +kernel
theorem dX9_late_63 : decode cX9_late 63 = .ok (.iinc 4 1, 3) := by decide +kernel
theorem dX9_late_66 : decode cX9_late 66 = .ok (.goto (-33), 3) := by decide +kernel
theorem dX9_late_69 : decode cX9_late 69 = .ok (.aload_n 0, 1) := by decide +kernel
theorem dX9_late_70 : decode cX9_late 70 = .ok (.aload_n 0, 1) := by decide +kernel
theorem dX9_late_71 : decode cX9_late 71 = .ok (.iload_n 3, 1) := by decide +kernel
theorem dX9_late_72 : decode cX9_late 72 = .ok (.invokevirtual 194, 3) := by decide +kernel
theorem dX9_late_75 : decode cX9_late 75 = .ok (.aload_n 0, 1) := by decide +kernel
theorem dX9_late_76 : decode cX9_late 76 = .ok (.getfield 44, 3) := by decide +kernel
theorem dX9_late_79 : decode cX9_late 79 = .ok (.iload_n 3, 1) := by decide +kernel
theorem dX9_late_80 : decode cX9_late 80 = .ok (.iaload, 1) := by decide +kernel
theorem dX9_late_81 : decode cX9_late 81 = .ok (.invokevirtual 105, 3) := by decide +kernel
theorem dX9_late_84 : decode cX9_late 84 = .ok (.ireturn, 1) := by decide +kernel
theorem dX9_layGame_0 : decode cX9_layGame 0 = .ok (.iconst 0, 1) := by decide +kernel
theorem dX9_layGame_1 : decode cX9_layGame 1 = .ok (.istore_n 3, 1) := by decide +kernel
theorem dX9_layGame_2 : decode cX9_layGame 2 = .ok (.iload_n 3, 1) := by decide +kernel
theorem dX9_layGame_3 : decode cX9_layGame 3 = .ok (.iconst 2, 1) := by decide +kernel
theorem dX9_layGame_4 : decode cX9_layGame 4 = .ok (.iload_n 2, 1) := by decide +kernel
theorem dX9_layGame_5 : decode cX9_layGame 5 = .ok (.imul, 1) := by decide +kernel
theorem dX9_layGame_6 : decode cX9_layGame 6 = .ok (.if_icmp .gt 197, 3) := by decide +kernel
theorem dX9_layGame_9 : decode cX9_layGame 9 = .ok (.iconst 0, 1) := by decide +kernel
theorem dX9_layGame_10 : decode cX9_layGame 10 = .ok (.istore 4, 2) := by decide +kernel
theorem dX9_layGame_12 : decode cX9_layGame 12 = .ok (.iload 4, 2) := by decide +kernel
theorem dX9_layGame_14 : decode cX9_layGame 14 = .ok (.bipush 20, 2) := by decide +kernel
theorem dX9_layGame_16 : decode cX9_layGame 16 = .ok (.if_icmp .gt 181, 3) := by decide +kernel
theorem dX9_layGame_19 : decode cX9_layGame 19 = .ok (.iload_n 3, 1) := by decide +kernel
theorem dX9_layGame_20 : decode cX9_layGame 20 = .ok (.iconst 2, 1) := by decide +kernel
theorem dX9_layGame_21 : decode cX9_layGame 21 = .ok (.irem, 1) := by decide +kernel
theorem dX9_layGame_22 : decode cX9_layGame 22 = .ok (.ifCond .ne 7, 3) := by decide +kernel
theorem dX9_layGame_25 : decode cX9_layGame 25 = .ok (.iconst 1, 1) := by decide +kernel
theorem dX9_layGame_26 : decode cX9_layGame 26 = .ok (.goto 4, 3) := by decide +kernel
theorem dX9_layGame_29 : decode cX9_layGame 29 = .ok (.iconst 0, 1) := by decide +kernel
theorem dX9_layGame_30 : decode cX9_layGame 30 = .ok (.istore 5, 2) := by decide +kernel
theorem dX9_layGame_32 : decode cX9_layGame 32 = .ok (.iload_n 3, 1) := by decide +kernel
theorem dX9_layGame_33 : decode cX9_layGame 33 = .ok (.ifCond .ne 18, 3) := by decide +kernel
theorem dX9_layGame_36 : decode cX9_layGame 36 = .ok (.iload 4, 2) := by decide +kernel
theorem dX9_layGame_38 : decode cX9_layGame 38 = .ok (.bipush 20, 2) := by decide +kernel
theorem dX9_layGame_40 : decode cX9_layGame 40 = .ok (.if_icmp .ne 7, 3) := by decide +kernel
theorem dX9_layGame_43 : decode cX9_layGame 43 = .ok (.iconst 1, 1) := by decide +kernel
theorem dX9_layGame_44 : decode cX9_layGame 44 = .ok (.goto 17, 3) := by decide +kernel
theorem dX9_layGame_47 : decode cX9_layGame 47 = .ok (.iconst 0, 1) := by decide +kernel
theorem dX9_layGame_48 : decode cX9_layGame 48 = .ok (.goto 13, 3) := by decide +kernel
theorem dX9_layGame_51 : decode cX9_layGame 51 = .ok (.iload 5, 2) := by decide +kernel
theorem dX9_layGame_53 : decode cX9_layGame 53 = .ok (.ifCond .ne 7, 3) := by decide +kernel
theorem dX9_layGame_56 : decode cX9_layGame 56 = .ok (.iconst 1, 1) := by decide +kernel
theorem dX9_layGame_57 : decode cX9_layGame 57 = .ok (.goto 4, 3) := by decide +kernel
theorem dX9_layGame_60 : decode cX9_layGame 60 = .ok (.iconst 0, 1) := by decide +kernel
theorem dX9_layGame_61 : decode cX9_layGame 61 = .ok (.istore 6, 2) := by decide +kernel
theorem dX9_layGame_63 : decode cX9_layGame 63 = .ok (.iconst 0, 1) := by decide +kernel
theorem dX9_layGame_64 : decode cX9_layGame 64 = .ok (.istore 7, 2) := by decide +kernel
theorem dX9_layGame_66 : decode cX9_layGame 66 = .ok (.iload 7, 2) := by decide +kernel
theorem dX9_layGame_68 : decode cX9_layGame 68 = .ok (.iload 5, 2) := by decide +kernel
theorem dX9_layGame_70 : decode cX9_layGame 70 = .ok (.ifCond .eq 8, 3) := by decide +kernel
theorem dX9_layGame_73 : decode cX9_layGame 73 = .ok (.bipush 7, 2) := by decide +kernel
theorem dX9_layGame_75 : decode cX9_layGame 75 = .ok (.goto 4, 3) := by decide +kernel
theorem dX9_layGame_78 : decode cX9_layGame 78 = .ok (.iconst 4, 1) := by decide +kernel
theorem dX9_layGame_79 : decode cX9_layGame 79 = .ok (.if_icmp .ge 98, 3) := by decide +kernel
theorem dX9_layGame_82 : decode cX9_layGame 82 = .ok (.iload_n 3, 1) := by decide +kernel
theorem dX9_layGame_83 : decode cX9_layGame 83 = .ok (.ifCond .le 94, 3) := by decide +kernel
theorem dX9_layGame_86 : decode cX9_layGame 86 = .ok (.iload_n 1, 1) := by decide +kernel
theorem dX9_layGame_87 : decode cX9_layGame 87 = .ok (.iload 4, 2) := by decide +kernel
theorem dX9_layGame_89 : decode cX9_layGame 89 = .ok (.iload 7, 2) := by decide +kernel
theorem dX9_layGame_91 : decode cX9_layGame 91 = .ok (.invokestatic 157, 3) := by decide +kernel
theorem dX9_layGame_94 : decode cX9_layGame 94 = .ok (.istore 8, 2) := by decide +kernel
theorem dX9_layGame_96 : decode cX9_layGame 96 = .ok (.iload 8, 2) := by decide +kernel
theorem dX9_layGame_98 : decode cX9_layGame 98 = .ok (.iconst (-1), 1) := by decide +kernel
theorem dX9_layGame_99 : decode cX9_layGame 99 = .ok (.if_icmp .ne 16, 3) := by decide +kernel
theorem dX9_layGame_102 : decode cX9_layGame 102 = .ok (.iload 5, 2) := by decide +kernel
theorem dX9_layGame_104 : decode cX9_layGame 104 = .ok (.ifCond .ne 7, 3) := by decide +kernel
theorem dX9_layGame_107 : decode cX9_layGame 107 = .ok (.iconst 1, 1) := by decide +kernel
theorem dX9_layGame_108 : decode cX9_layGame 108 = .ok (.goto 21, 3) := by decide +kernel
theorem dX9_layGame_111 : decode cX9_layGame 111 = .ok (.iconst 0, 1) := by decide +kernel
theorem dX9_layGame_112 : decode cX9_layGame 112 = .ok (.goto 17, 3) := by decide +kernel
theorem dX9_layGame_115 : decode cX9_layGame 115 = .ok (.aload_n 0, 1) := by decide +kernel
theorem dX9_layGame_116 : decode cX9_layGame 116 = .ok (.getfield 65, 3) := by decide +kernel
theorem dX9_layGame_119 : decode cX9_layGame 119 = .ok (.bipush 21, 2) := by decide +kernel
theorem dX9_layGame_121 : decode cX9_layGame 121 = .ok (.iload_n 3, 1) := by decide +kernel
theorem dX9_layGame_122 : decode cX9_layGame 122 = .ok (.iconst 1, 1) := by decide +kernel
theorem dX9_layGame_123 : decode cX9_layGame 123 = .ok (.isub, 1) := by decide +kernel
theorem dX9_layGame_124 : decode cX9_layGame 124 = .ok (.imul, 1) := by decide +kernel
theorem dX9_layGame_125 : decode cX9_layGame 125 = .ok (.iload 8, 2) := by decide +kernel
theorem dX9_layGame_127 : decode cX9_layGame 127 = .ok (.iadd, 1) := by decide +kernel
theorem dX9_layGame_128 : decode cX9_layGame 128 = .ok (.baload, 1) := by decide +kernel
theorem dX9_layGame_129 : decode cX9_layGame 129 = .ok (.istore 9, 2) := by decide +kernel
theorem dX9_layGame_131 : decode cX9_layGame 131 = .ok (.iload 5, 2) := by decide +kernel
theorem dX9_layGame_133 : decode cX9_layGame 133 = .ok (.ifCond .eq 21, 3) := by decide +kernel
theorem dX9_layGame_136 : decode cX9_layGame 136 = .ok (.iload 6, 2) := by decide +kernel
theorem dX9_layGame_138 : decode cX9_layGame 138 = .ok (.ifCond .ne 8, 3) := by decide +kernel
theorem dX9_layGame_141 : decode cX9_layGame 141 = .ok (.iload 9, 2) := by decide +kernel
theorem dX9_layGame_143 : decode cX9_layGame 143 = .ok (.ifCond .eq 7, 3) := by decide +kernel
theorem dX9_layGame_146 : decode cX9_layGame 146 = .ok (.iconst 1, 1) := by decide +kernel
theorem dX9_layGame_147 : decode cX9_layGame 147 = .ok (.goto 22, 3) := by decide +kernel
theorem dX9_layGame_150 : decode cX9_layGame 150 = .ok (.iconst 0, 1) := by decide +kernel
theorem dX9_layGame_151 : decode cX9_layGame 151 = .ok (.goto 18, 3) := by decide +kernel
theorem dX9_layGame_154 : decode cX9_layGame 154 = .ok (.iload 6, 2) := by decide +kernel
theorem dX9_layGame_156 : decode cX9_layGame 156 = .ok (.ifCond .eq 12, 3) := by decide +kernel
theorem dX9_layGame_159 : decode cX9_layGame 159 = .ok (.iload 9, 2) := by decide +kernel
theorem dX9_layGame_161 : decode cX9_layGame 161 = .ok (.ifCond .eq 7, 3) := by decide +kernel
theorem dX9_layGame_164 : decode cX9_layGame 164 = .ok (.iconst 1, 1) := by decide +kernel
theorem dX9_layGame_165 : decode cX9_layGame 165 = .ok (.goto 4, 3) := by decide +kernel
theorem dX9_layGame_168 : decode cX9_layGame 168 = .ok (.iconst 0, 1) := by decide +kernel
theorem dX9_layGame_169 : decode cX9_layGame 169 = .ok (.istore 6, 2) := by decide +kernel
theorem dX9_layGame_171 : decode cX9_layGame 171 = .ok (.iinc 7 1, 3) := by decide +kernel
theorem dX9_layGame_174 : decode cX9_layGame 174 = .ok (.goto (-108), 3) := by decide +kernel
theorem dX9_layGame_177 : decode cX9_layGame 177 = .ok (.aload_n 0, 1) := by decide +kernel
theorem dX9_layGame_178 : decode cX9_layGame 178 = .ok (.getfield 65, 3) := by decide +kernel
theorem dX9_layGame_181 : decode cX9_layGame 181 = .ok (.bipush 21, 2) := by decide +kernel
theorem dX9_layGame_183 : decode cX9_layGame 183 = .ok (.iload_n 3, 1) := by decide +kernel
theorem dX9_layGame_184 : decode cX9_layGame 184 = .ok (.imul, 1) := by decide +kernel
theorem dX9_layGame_185 : decode cX9_layGame 185 = .ok (.iload 4, 2) := by decide +kernel
theorem dX9_layGame_187 : decode cX9_layGame 187 = .ok (.iadd, 1) := by decide +kernel
theorem dX9_layGame_188 : decode cX9_layGame 188 = .ok (.iload 6, 2) := by decide +kernel
theorem dX9_layGame_190 : decode cX9_layGame 190 = .ok (.bastore, 1) := by decide +kernel
theorem dX9_layGame_191 : decode cX9_layGame 191 = .ok (.iinc 4 1, 3) := by decide +kernel
theorem dX9_layGame_194 : decode cX9_layGame 194 = .ok (.goto (-182), 3) := by decide +kernel
theorem dX9_layGame_197 : decode cX9_layGame 197 = .ok (.iinc 3 1, 3) := by decide +kernel
theorem dX9_layGame_200 : decode cX9_layGame 200 = .ok (.goto (-198), 3) := by decide +kernel
theorem dX9_layGame_203 : decode cX9_layGame 203 = .ok (.return_, 1) := by decide +kernel
theorem dX9_game_0 : decode cX9_game 0 = .ok (.aload_n 0, 1) := by decide +kernel
theorem dX9_game_1 : decode cX9_game 1 = .ok (.iload_n 1, 1) := by decide +kernel
theorem dX9_game_2 : decode cX9_game 2 = .ok (.invokevirtual 145, 3) := by decide +kernel
theorem dX9_game_5 : decode cX9_game 5 = .ok (.ifCond .eq 15, 3) := by decide +kernel
theorem dX9_game_8 : decode cX9_game 8 = .ok (.iload_n 2, 1) := by decide +kernel
theorem dX9_game_9 : decode cX9_game 9 = .ok (.i2l, 1) := by decide +kernel
theorem dX9_game_10 : decode cX9_game 10 = .ok (.lconst 0, 1) := by decide +kernel
theorem dX9_game_11 : decode cX9_game 11 = .ok (.ldc2_w 87, 3) := by decide +kernel
theorem dX9_game_14 : decode cX9_game 14 = .ok (.invokestatic 83, 3) := by decide +kernel
theorem dX9_game_17 : decode cX9_game 17 = .ok (.ifCond .ne 5, 3) := by decide +kernel
theorem dX9_game_20 : decode cX9_game 20 = .ok (.iconst (-1), 1) := by decide +kernel
theorem dX9_game_21 : decode cX9_game 21 = .ok (.ireturn, 1) := by decide +kernel
theorem dX9_game_22 : decode cX9_game 22 = .ok (.aload_n 0, 1) := by decide +kernel
theorem dX9_game_23 : decode cX9_game 23 = .ok (.iload_n 1, 1) := by decide +kernel
theorem dX9_game_24 : decode cX9_game 24 = .ok (.invokevirtual 175, 3) := by decide +kernel
theorem dX9_game_27 : decode cX9_game 27 = .ok (.ifCond .eq 6, 3) := by decide +kernel
theorem dX9_game_30 : decode cX9_game 30 = .ok (.bipush (-4), 2) := by decide +kernel
theorem dX9_game_32 : decode cX9_game 32 = .ok (.ireturn, 1) := by decide +kernel
theorem dX9_game_33 : decode cX9_game 33 = .ok (.aload_n 0, 1) := by decide +kernel
theorem dX9_game_34 : decode cX9_game 34 = .ok (.aload_n 0, 1) := by decide +kernel
theorem dX9_game_35 : decode cX9_game 35 = .ok (.getfield 7, 3) := by decide +kernel
theorem dX9_game_38 : decode cX9_game 38 = .ok (.iconst 2, 1) := by decide +kernel
theorem dX9_game_39 : decode cX9_game 39 = .ok (.iload_n 1, 1) := by decide +kernel
theorem dX9_game_40 : decode cX9_game 40 = .ok (.iadd, 1) := by decide +kernel
theorem dX9_game_41 : decode cX9_game 41 = .ok (.iaload, 1) := by decide +kernel
theorem dX9_game_42 : decode cX9_game 42 = .ok (.iload_n 2, 1) := by decide +kernel
theorem dX9_game_43 : decode cX9_game 43 = .ok (.invokevirtual 248, 3) := by decide +kernel
theorem dX9_game_46 : decode cX9_game 46 = .ok (.aload_n 0, 1) := by decide +kernel
theorem dX9_game_47 : decode cX9_game 47 = .ok (.getfield 65, 3) := by decide +kernel
theorem dX9_game_50 : decode cX9_game 50 = .ok (.bipush 42, 2) := by decide +kernel
theorem dX9_game_52 : decode cX9_game 52 = .ok (.iload_n 2, 1) := by decide +kernel
theorem dX9_game_53 : decode cX9_game 53 = .ok (.imul, 1) := by decide +kernel
theorem dX9_game_54 : decode cX9_game 54 = .ok (.aload_n 0, 1) := by decide +kernel
theorem dX9_game_55 : decode cX9_game 55 = .ok (.getfield 7, 3) := by decide +kernel
theorem dX9_game_58 : decode cX9_game 58 = .ok (.bipush 14, 2) := by decide +kernel
theorem dX9_game_60 : decode cX9_game 60 = .ok (.iload_n 1, 1) := by decide +kernel
theorem dX9_game_61 : decode cX9_game 61 = .ok (.iadd, 1) := by decide +kernel
theorem dX9_game_62 : decode cX9_game 62 = .ok (.iaload, 1) := by decide +kernel
theorem dX9_game_63 : decode cX9_game 63 = .ok (.iadd, 1) := by decide +kernel
theorem dX9_game_64 : decode cX9_game 64 = .ok (.baload, 1) := by decide +kernel
theorem dX9_game_65 : decode cX9_game 65 = .ok (.ifCond .eq 7, 3) := by decide +kernel
theorem dX9_game_68 : decode cX9_game 68 = .ok (.iconst 1, 1) := by decide +kernel
theorem dX9_game_69 : decode cX9_game 69 = .ok (.goto 4, 3) := by decide +kernel
theorem dX9_game_72 : decode cX9_game 72 = .ok (.iconst 0, 1) := by decide +kernel
theorem dX9_game_73 : decode cX9_game 73 = .ok (.ireturn, 1) := by decide +kernel
theorem dX9_first_0 : decode cX9_first 0 = .ok (.aload_n 0, 1) := by decide +kernel
theorem dX9_first_1 : decode cX9_first 1 = .ok (.iload_n 1, 1) := by decide +kernel
theorem dX9_first_2 : decode cX9_first 2 = .ok (.invokevirtual 145, 3) := by decide +kernel
theorem dX9_first_5 : decode cX9_first 5 = .ok (.ifCond .eq 15, 3) := by decide +kernel
theorem dX9_first_8 : decode cX9_first 8 = .ok (.iload_n 2, 1) := by decide +kernel
theorem dX9_first_9 : decode cX9_first 9 = .ok (.i2l, 1) := by decide +kernel
theorem dX9_first_10 : decode cX9_first 10 = .ok (.lconst 1, 1) := by decide +kernel
theorem dX9_first_11 : decode cX9_first 11 = .ok (.ldc2_w 87, 3) := by decide +kernel
theorem dX9_first_14 : decode cX9_first 14 = .ok (.invokestatic 83, 3) := by decide +kernel
theorem dX9_first_17 : decode cX9_first 17 = .ok (.ifCond .ne 5, 3) := by decide +kernel
theorem dX9_first_20 : decode cX9_first 20 = .ok (.iconst (-1), 1) := by decide +kernel
theorem dX9_first_21 : decode cX9_first 21 = .ok (.ireturn, 1) := by decide +kernel
theorem dX9_first_22 : decode cX9_first 22 = .ok (.aload_n 0, 1) := by decide +kernel
theorem dX9_first_23 : decode cX9_first 23 = .ok (.iload_n 1, 1) := by decide +kernel
theorem dX9_first_24 : decode cX9_first 24 = .ok (.invokevirtual 175, 3) := by decide +kernel
theorem dX9_first_27 : decode cX9_first 27 = .ok (.ifCond .eq 6, 3) := by decide +kernel
theorem dX9_first_30 : decode cX9_first 30 = .ok (.bipush (-4), 2) := by decide +kernel
theorem dX9_first_32 : decode cX9_first 32 = .ok (.ireturn, 1) := by decide +kernel
theorem dX9_first_33 : decode cX9_first 33 = .ok (.aload_n 0, 1) := by decide +kernel
theorem dX9_first_34 : decode cX9_first 34 = .ok (.aload_n 0, 1) := by decide +kernel
theorem dX9_first_35 : decode cX9_first 35 = .ok (.getfield 7, 3) := by decide +kernel
theorem dX9_first_38 : decode cX9_first 38 = .ok (.iconst 2, 1) := by decide +kernel
theorem dX9_first_39 : decode cX9_first 39 = .ok (.iload_n 1, 1) := by decide +kernel
theorem dX9_first_40 : decode cX9_first 40 = .ok (.iadd, 1) := by decide +kernel
theorem dX9_first_41 : decode cX9_first 41 = .ok (.iaload, 1) := by decide +kernel
theorem dX9_first_42 : decode cX9_first 42 = .ok (.iload_n 2, 1) := by decide +kernel
theorem dX9_first_43 : decode cX9_first 43 = .ok (.invokevirtual 248, 3) := by decide +kernel
theorem dX9_first_46 : decode cX9_first 46 = .ok (.iconst 0, 1) := by decide +kernel
theorem dX9_first_47 : decode cX9_first 47 = .ok (.istore_n 3, 1) := by decide +kernel
theorem dX9_first_48 : decode cX9_first 48 = .ok (.iload_n 3, 1) := by decide +kernel
theorem dX9_first_49 : decode cX9_first 49 = .ok (.bipush 7, 2) := by decide +kernel
theorem dX9_first_51 : decode cX9_first 51 = .ok (.if_icmp .ge 59, 3) := by decide +kernel
theorem dX9_first_54 : decode cX9_first 54 = .ok (.aload_n 0, 1) := by decide +kernel
theorem dX9_first_55 : decode cX9_first 55 = .ok (.getfield 7, 3) := by decide +kernel
theorem dX9_first_58 : decode cX9_first 58 = .ok (.iconst 2, 1) := by decide +kernel
theorem dX9_first_59 : decode cX9_first 59 = .ok (.iload_n 1, 1) := by decide +kernel
theorem dX9_first_60 : decode cX9_first 60 = .ok (.iadd, 1) := by decide +kernel
theorem dX9_first_61 : decode cX9_first 61 = .ok (.iaload, 1) := by decide +kernel
theorem dX9_first_62 : decode cX9_first 62 = .ok (.aload_n 0, 1) := by decide +kernel
theorem dX9_first_63 : decode cX9_first 63 = .ok (.getfield 7, 3) := by decide +kernel
theorem dX9_first_66 : decode cX9_first 66 = .ok (.bipush 14, 2) := by decide +kernel
theorem dX9_first_68 : decode cX9_first 68 = .ok (.iload_n 1, 1) := by decide +kernel
theorem dX9_first_69 : decode cX9_first 69 = .ok (.iadd, 1) := by decide +kernel
theorem dX9_first_70 : decode cX9_first 70 = .ok (.iaload, 1) := by decide +kernel
theorem dX9_first_71 : decode cX9_first 71 = .ok (.iload_n 3, 1) := by decide +kernel
theorem dX9_first_72 : decode cX9_first 72 = .ok (.invokestatic 157, 3) := by decide +kernel
theorem dX9_first_75 : decode cX9_first 75 = .ok (.istore 4, 2) := by decide +kernel
theorem dX9_first_77 : decode cX9_first 77 = .ok (.iload 4, 2) := by decide +kernel
theorem dX9_first_79 : decode cX9_first 79 = .ok (.iconst (-1), 1) := by decide +kernel
theorem dX9_first_80 : decode cX9_first 80 = .ok (.if_icmp .eq 24, 3) := by decide +kernel
theorem dX9_first_83 : decode cX9_first 83 = .ok (.aload_n 0, 1) := by decide +kernel
theorem dX9_first_84 : decode cX9_first 84 = .ok (.getfield 65, 3) := by decide +kernel
theorem dX9_first_87 : decode cX9_first 87 = .ok (.bipush 21, 2) := by decide +kernel
theorem dX9_first_89 : decode cX9_first 89 = .ok (.iconst 2, 1) := by decide +kernel
theorem dX9_first_90 : decode cX9_first 90 = .ok (.iload_n 2, 1) := by decide +kernel
theorem dX9_first_91 : decode cX9_first 91 = .ok (.imul, 1) := by decide +kernel
theorem dX9_first_92 : decode cX9_first 92 = .ok (.iconst 1, 1) := by decide +kernel
theorem dX9_first_93 : decode cX9_first 93 = .ok (.isub, 1) := by decide +kernel
theorem dX9_first_94 : decode cX9_first 94 = .ok (.imul, 1) := by decide +kernel
theorem dX9_first_95 : decode cX9_first 95 = .ok (.iload 4, 2) := by decide +kernel
theorem dX9_first_97 : decode cX9_first 97 = .ok (.iadd, 1) := by decide +kernel
theorem dX9_first_98 : decode cX9_first 98 = .ok (.baload, 1) := by decide +kernel
theorem dX9_first_99 : decode cX9_first 99 = .ok (.ifCond .eq 5, 3) := by decide +kernel
theorem dX9_first_102 : decode cX9_first 102 = .ok (.iload_n 3, 1) := by decide +kernel
theorem dX9_first_103 : decode cX9_first 103 = .ok (.ireturn, 1) := by decide +kernel
theorem dX9_first_104 : decode cX9_first 104 = .ok (.iinc 3 1, 3) := by decide +kernel
theorem dX9_first_107 : decode cX9_first 107 = .ok (.goto (-59), 3) := by decide +kernel
theorem dX9_first_110 : decode cX9_first 110 = .ok (.bipush (-9), 2) := by decide +kernel
theorem dX9_first_112 : decode cX9_first 112 = .ok (.ireturn, 1) := by decide +kernel
theorem dX9_againstPairs_0 : decode cX9_againstPairs 0 = .ok (.aload_n 0, 1) := by decide +kernel
theorem dX9_againstPairs_1 : decode cX9_againstPairs 1 = .ok (.iload_n 1, 1) := by decide +kernel
theorem dX9_againstPairs_2 : decode cX9_againstPairs 2 = .ok (.invokevirtual 145, 3) := by decide +kernel
theorem dX9_againstPairs_5 : decode cX9_againstPairs 5 = .ok (.ifCond .eq 10, 3) := by decide +kernel
theorem dX9_againstPairs_8 : decode cX9_againstPairs 8 = .ok (.iload_n 2, 1) := by decide +kernel
theorem dX9_againstPairs_9 : decode cX9_againstPairs 9 = .ok (.invokestatic 89, 3) := by decide +kernel
theorem dX9_againstPairs_12 : decode cX9_againstPairs 12 = .ok (.ifCond .ne 5, 3) := by decide +kernel
theorem dX9_againstPairs_15 : decode cX9_againstPairs 15 = .ok (.iconst (-1), 1) := by decide +kernel
theorem dX9_againstPairs_16 : decode cX9_againstPairs 16 = .ok (.ireturn, 1) := by decide +kernel
theorem dX9_againstPairs_17 : decode cX9_againstPairs 17 = .ok (.aload_n 0, 1) := by decide +kernel
theorem dX9_againstPairs_18 : decode cX9_againstPairs 18 = .ok (.iload_n 1, 1) := by decide +kernel
theorem dX9_againstPairs_19 : decode cX9_againstPairs 19 = .ok (.invokevirtual 175, 3) := by decide +kernel
theorem dX9_againstPairs_22 : decode cX9_againstPairs 22 = .ok (.ifCond .eq 6, 3) := by decide +kernel
theorem dX9_againstPairs_25 : decode cX9_againstPairs 25 = .ok (.bipush (-4), 2) := by decide +kernel
theorem dX9_againstPairs_27 : decode cX9_againstPairs 27 = .ok (.ireturn, 1) := by decide +kernel
theorem dX9_againstPairs_28 : decode cX9_againstPairs 28 = .ok (.aload_n 0, 1) := by decide +kernel
theorem dX9_againstPairs_29 : decode cX9_againstPairs 29 = .ok (.getfield 19, 3) := by decide +kernel
theorem dX9_againstPairs_32 : decode cX9_againstPairs 32 = .ok (.iload_n 2, 1) := by decide +kernel
theorem dX9_againstPairs_33 : decode cX9_againstPairs 33 = .ok (.iaload, 1) := by decide +kernel
theorem dX9_againstPairs_34 : decode cX9_againstPairs 34 = .ok (.ifCond .ge 9, 3) := by decide +kernel
theorem dX9_againstPairs_37 : decode cX9_againstPairs 37 = .ok (.aload_n 0, 1) := by decide +kernel
theorem dX9_againstPairs_38 : decode cX9_againstPairs 38 = .ok (.iconst 1, 1) := by decide +kernel
theorem dX9_againstPairs_39 : decode cX9_againstPairs 39 = .ok (.invokevirtual 93, 3) := by decide +kernel
theorem dX9_againstPairs_42 : decode cX9_againstPairs 42 = .ok (.ireturn, 1) := by decide +kernel
theorem dX9_againstPairs_43 : decode cX9_againstPairs 43 = .ok (.aload_n 0, 1) := by decide +kernel
theorem dX9_againstPairs_44 : decode cX9_againstPairs 44 = .ok (.getfield 19, 3) := by decide +kernel
theorem dX9_againstPairs_47 : decode cX9_againstPairs 47 = .ok (.iload_n 2, 1) := by decide +kernel
theorem dX9_againstPairs_48 : decode cX9_againstPairs 48 = .ok (.iaload, 1) := by decide +kernel
theorem dX9_againstPairs_49 : decode cX9_againstPairs 49 = .ok (.iconst 2, 1) := by decide +kernel
theorem dX9_againstPairs_50 : decode cX9_againstPairs 50 = .ok (.irem, 1) := by decide +kernel
theorem dX9_againstPairs_51 : decode cX9_againstPairs 51 = .ok (.ifCond .eq 9, 3) := by decide +kernel
theorem dX9_againstPairs_54 : decode cX9_againstPairs 54 = .ok (.aload_n 0, 1) := by decide +kernel
theorem dX9_againstPairs_55 : decode cX9_againstPairs 55 = .ok (.iconst 5, 1) := by decide +kernel
theorem dX9_againstPairs_56 : decode cX9_againstPairs 56 = .ok (.invokevirtual 93, 3) := by decide +kernel
theorem dX9_againstPairs_59 : decode cX9_againstPairs 59 = .ok (.ireturn, 1) := by decide +kernel
theorem dX9_againstPairs_60 : decode cX9_againstPairs 60 = .ok (.iconst 0, 1) := by decide +kernel
theorem dX9_againstPairs_61 : decode cX9_againstPairs 61 = .ok (.istore_n 3, 1) := by decide +kernel
theorem dX9_againstPairs_62 : decode cX9_againstPairs 62 = .ok (.iload_n 3, 1) := by decide +kernel
theorem dX9_againstPairs_63 : decode cX9_againstPairs 63 = .ok (.aload_n 0, 1) := by decide +kernel
theorem dX9_againstPairs_64 : decode cX9_againstPairs 64 = .ok (.getfield 19, 3) := by decide +kernel
theorem dX9_againstPairs_67 : decode cX9_againstPairs 67 = .ok (.iload_n 2, 1) := by decide +kernel
theorem dX9_againstPairs_68 : decode cX9_againstPairs 68 = .ok (.iaload, 1) := by decide +kernel
theorem dX9_againstPairs_69 : decode cX9_againstPairs 69 = .ok (.if_icmp .ge 32, 3) := by decide +kernel
theorem dX9_againstPairs_72 : decode cX9_againstPairs 72 = .ok (.aload_n 0, 1) := by decide +kernel
theorem dX9_againstPairs_73 : decode cX9_againstPairs 73 = .ok (.getfield 16, 3) := by decide +kernel
theorem dX9_againstPairs_76 : decode cX9_againstPairs 76 = .ok (.bipush 40, 2) := by decide +kernel
theorem dX9_againstPairs_78 : decode cX9_againstPairs 78 = .ok (.iload_n 2, 1) := by decide +kernel
theorem dX9_againstPairs_79 : decode cX9_againstPairs 79 = .ok (.imul, 1) := by decide +kernel
theorem dX9_againstPairs_80 : decode cX9_againstPairs 80 = .ok (.iload_n 3, 1) := by decide +kernel
theorem dX9_againstPairs_81 : decode cX9_againstPairs 81 = .ok (.iadd, 1) := by decide +kernel
theorem dX9_againstPairs_82 : decode cX9_againstPairs 82 = .ok (.iaload, 1) := by decide +kernel
theorem dX9_againstPairs_83 : decode cX9_againstPairs 83 = .ok (.invokestatic 172, 3) := by decide +kernel
theorem dX9_againstPairs_86 : decode cX9_againstPairs 86 = .ok (.ifCond .ne 9, 3) := by decide +kernel
theorem dX9_againstPairs_89 : decode cX9_againstPairs 89 = .ok (.aload_n 0, 1) := by decide +kernel
theorem dX9_againstPairs_90 : decode cX9_againstPairs 90 = .ok (.iconst 3, 1) := by decide +kernel
theorem dX9_againstPairs_91 : decode cX9_againstPairs 91 = .ok (.invokevirtual 93, 3) := by decide +kernel
theorem dX9_againstPairs_94 : decode cX9_againstPairs 94 = .ok (.ireturn, 1) := by decide +kernel
theorem dX9_againstPairs_95 : decode cX9_againstPairs 95 = .ok (.iinc 3 2, 3) := by decide +kernel
