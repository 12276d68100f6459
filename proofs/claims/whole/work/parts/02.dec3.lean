theorem dX9_againstPairs_98 : decode cX9_againstPairs 98 = .ok (.goto (-36), 3) := by decide +kernel
theorem dX9_againstPairs_101 : decode cX9_againstPairs 101 = .ok (.iconst 0, 1) := by decide +kernel
theorem dX9_againstPairs_102 : decode cX9_againstPairs 102 = .ok (.ireturn, 1) := by decide +kernel
theorem dX9_isSo_0 : decode cX9_isSo 0 = .ok (.iconst 1, 1) := by decide +kernel
theorem dX9_isSo_1 : decode cX9_isSo 1 = .ok (.istore 6, 2) := by decide +kernel
theorem dX9_isSo_3 : decode cX9_isSo 3 = .ok (.iload 4, 2) := by decide +kernel
theorem dX9_isSo_5 : decode cX9_isSo 5 = .ok (.istore 7, 2) := by decide +kernel
theorem dX9_isSo_7 : decode cX9_isSo 7 = .ok (.iconst 0, 1) := by decide +kernel
theorem dX9_isSo_8 : decode cX9_isSo 8 = .ok (.istore 8, 2) := by decide +kernel
theorem dX9_isSo_10 : decode cX9_isSo 10 = .ok (.iload 8, 2) := by decide +kernel
theorem dX9_isSo_12 : decode cX9_isSo 12 = .ok (.aload_n 0, 1) := by decide +kernel
theorem dX9_isSo_13 : decode cX9_isSo 13 = .ok (.getfield 19, 3) := by decide +kernel
theorem dX9_isSo_16 : decode cX9_isSo 16 = .ok (.iload_n 1, 1) := by decide +kernel
theorem dX9_isSo_17 : decode cX9_isSo 17 = .ok (.iaload, 1) := by decide +kernel
theorem dX9_isSo_18 : decode cX9_isSo 18 = .ok (.if_icmp .ge 77, 3) := by decide +kernel
theorem dX9_isSo_21 : decode cX9_isSo 21 = .ok (.iload 7, 2) := by decide +kernel
theorem dX9_isSo_23 : decode cX9_isSo 23 = .ok (.iconst (-1), 1) := by decide +kernel
theorem dX9_isSo_24 : decode cX9_isSo 24 = .ok (.if_icmp .ne 7, 3) := by decide +kernel
theorem dX9_isSo_27 : decode cX9_isSo 27 = .ok (.iconst (-1), 1) := by decide +kernel
theorem dX9_isSo_28 : decode cX9_isSo 28 = .ok (.goto 21, 3) := by decide +kernel
theorem dX9_isSo_31 : decode cX9_isSo 31 = .ok (.iload_n 2, 1) := by decide +kernel
theorem dX9_isSo_32 : decode cX9_isSo 32 = .ok (.iload 7, 2) := by decide +kernel
theorem dX9_isSo_34 : decode cX9_isSo 34 = .ok (.aload_n 0, 1) := by decide +kernel
theorem dX9_isSo_35 : decode cX9_isSo 35 = .ok (.getfield 16, 3) := by decide +kernel
theorem dX9_isSo_38 : decode cX9_isSo 38 = .ok (.bipush 40, 2) := by decide +kernel
theorem dX9_isSo_40 : decode cX9_isSo 40 = .ok (.iload_n 1, 1) := by decide +kernel
theorem dX9_isSo_41 : decode cX9_isSo 41 = .ok (.imul, 1) := by decide +kernel
theorem dX9_isSo_42 : decode cX9_isSo 42 = .ok (.iload 8, 2) := by decide +kernel
theorem dX9_isSo_44 : decode cX9_isSo 44 = .ok (.iadd, 1) := by decide +kernel
theorem dX9_isSo_45 : decode cX9_isSo 45 = .ok (.iaload, 1) := by decide +kernel
theorem dX9_isSo_46 : decode cX9_isSo 46 = .ok (.invokestatic 157, 3) := by decide +kernel
theorem dX9_isSo_49 : decode cX9_isSo 49 = .ok (.istore 7, 2) := by decide +kernel
theorem dX9_isSo_51 : decode cX9_isSo 51 = .ok (.iload 6, 2) := by decide +kernel
theorem dX9_isSo_53 : decode cX9_isSo 53 = .ok (.ifCond .eq 33, 3) := by decide +kernel
theorem dX9_isSo_56 : decode cX9_isSo 56 = .ok (.iload_n 2, 1) := by decide +kernel
theorem dX9_isSo_57 : decode cX9_isSo 57 = .ok (.iload_n 3, 1) := by decide +kernel
theorem dX9_isSo_58 : decode cX9_isSo 58 = .ok (.iload 7, 2) := by decide +kernel
theorem dX9_isSo_60 : decode cX9_isSo 60 = .ok (.iload 5, 2) := by decide +kernel
theorem dX9_isSo_62 : decode cX9_isSo 62 = .ok (.invokestatic 160, 3) := by decide +kernel
theorem dX9_isSo_65 : decode cX9_isSo 65 = .ok (.aload_n 0, 1) := by decide +kernel
theorem dX9_isSo_66 : decode cX9_isSo 66 = .ok (.getfield 16, 3) := by decide +kernel
theorem dX9_isSo_69 : decode cX9_isSo 69 = .ok (.bipush 40, 2) := by decide +kernel
theorem dX9_isSo_71 : decode cX9_isSo 71 = .ok (.iload_n 1, 1) := by decide +kernel
theorem dX9_isSo_72 : decode cX9_isSo 72 = .ok (.imul, 1) := by decide +kernel
theorem dX9_isSo_73 : decode cX9_isSo 73 = .ok (.iload 8, 2) := by decide +kernel
theorem dX9_isSo_75 : decode cX9_isSo 75 = .ok (.iadd, 1) := by decide +kernel
theorem dX9_isSo_76 : decode cX9_isSo 76 = .ok (.iconst 1, 1) := by decide +kernel
theorem dX9_isSo_77 : decode cX9_isSo 77 = .ok (.iadd, 1) := by decide +kernel
theorem dX9_isSo_78 : decode cX9_isSo 78 = .ok (.iaload, 1) := by decide +kernel
theorem dX9_isSo_79 : decode cX9_isSo 79 = .ok (.if_icmp .ne 7, 3) := by decide +kernel
theorem dX9_isSo_82 : decode cX9_isSo 82 = .ok (.iconst 1, 1) := by decide +kernel
theorem dX9_isSo_83 : decode cX9_isSo 83 = .ok (.goto 4, 3) := by decide +kernel
theorem dX9_isSo_86 : decode cX9_isSo 86 = .ok (.iconst 0, 1) := by decide +kernel
theorem dX9_isSo_87 : decode cX9_isSo 87 = .ok (.istore 6, 2) := by decide +kernel
theorem dX9_isSo_89 : decode cX9_isSo 89 = .ok (.iinc 8 2, 3) := by decide +kernel
theorem dX9_isSo_92 : decode cX9_isSo 92 = .ok (.goto (-82), 3) := by decide +kernel
theorem dX9_isSo_95 : decode cX9_isSo 95 = .ok (.iload 6, 2) := by decide +kernel
theorem dX9_isSo_97 : decode cX9_isSo 97 = .ok (.ireturn, 1) := by decide +kernel
theorem dX9_kinds_0 : decode cX9_kinds 0 = .ok (.aload_n 0, 1) := by decide +kernel
theorem dX9_kinds_1 : decode cX9_kinds 1 = .ok (.iload_n 1, 1) := by decide +kernel
theorem dX9_kinds_2 : decode cX9_kinds 2 = .ok (.iload_n 2, 1) := by decide +kernel
theorem dX9_kinds_3 : decode cX9_kinds 3 = .ok (.invokevirtual 251, 3) := by decide +kernel
theorem dX9_kinds_6 : decode cX9_kinds 6 = .ok (.istore_n 3, 1) := by decide +kernel
theorem dX9_kinds_7 : decode cX9_kinds 7 = .ok (.iload_n 3, 1) := by decide +kernel
theorem dX9_kinds_8 : decode cX9_kinds 8 = .ok (.ifCond .ge 5, 3) := by decide +kernel
theorem dX9_kinds_11 : decode cX9_kinds 11 = .ok (.iload_n 3, 1) := by decide +kernel
theorem dX9_kinds_12 : decode cX9_kinds 12 = .ok (.ireturn, 1) := by decide +kernel
theorem dX9_kinds_13 : decode cX9_kinds 13 = .ok (.iconst 0, 1) := by decide +kernel
theorem dX9_kinds_14 : decode cX9_kinds 14 = .ok (.istore 4, 2) := by decide +kernel
theorem dX9_kinds_16 : decode cX9_kinds 16 = .ok (.iconst 0, 1) := by decide +kernel
theorem dX9_kinds_17 : decode cX9_kinds 17 = .ok (.istore 5, 2) := by decide +kernel
theorem dX9_kinds_19 : decode cX9_kinds 19 = .ok (.iload 5, 2) := by decide +kernel
theorem dX9_kinds_21 : decode cX9_kinds 21 = .ok (.bipush 6, 2) := by decide +kernel
theorem dX9_kinds_23 : decode cX9_kinds 23 = .ok (.if_icmp .ge 56, 3) := by decide +kernel
theorem dX9_kinds_26 : decode cX9_kinds 26 = .ok (.iload 4, 2) := by decide +kernel
theorem dX9_kinds_28 : decode cX9_kinds 28 = .ok (.aload_n 0, 1) := by decide +kernel
theorem dX9_kinds_29 : decode cX9_kinds 29 = .ok (.iload_n 2, 1) := by decide +kernel
theorem dX9_kinds_30 : decode cX9_kinds 30 = .ok (.iload 5, 2) := by decide +kernel
theorem dX9_kinds_32 : decode cX9_kinds 32 = .ok (.aload_n 0, 1) := by decide +kernel
theorem dX9_kinds_33 : decode cX9_kinds 33 = .ok (.getfield 7, 3) := by decide +kernel
theorem dX9_kinds_36 : decode cX9_kinds 36 = .ok (.bipush 8, 2) := by decide +kernel
theorem dX9_kinds_38 : decode cX9_kinds 38 = .ok (.iload_n 1, 1) := by decide +kernel
theorem dX9_kinds_39 : decode cX9_kinds 39 = .ok (.iadd, 1) := by decide +kernel
theorem dX9_kinds_40 : decode cX9_kinds 40 = .ok (.iaload, 1) := by decide +kernel
theorem dX9_kinds_41 : decode cX9_kinds 41 = .ok (.aload_n 0, 1) := by decide +kernel
theorem dX9_kinds_42 : decode cX9_kinds 42 = .ok (.getfield 7, 3) := by decide +kernel
theorem dX9_kinds_45 : decode cX9_kinds 45 = .ok (.bipush 14, 2) := by decide +kernel
theorem dX9_kinds_47 : decode cX9_kinds 47 = .ok (.iload_n 1, 1) := by decide +kernel
theorem dX9_kinds_48 : decode cX9_kinds 48 = .ok (.iadd, 1) := by decide +kernel
theorem dX9_kinds_49 : decode cX9_kinds 49 = .ok (.iaload, 1) := by decide +kernel
theorem dX9_kinds_50 : decode cX9_kinds 50 = .ok (.aload_n 0, 1) := by decide +kernel
theorem dX9_kinds_51 : decode cX9_kinds 51 = .ok (.getfield 7, 3) := by decide +kernel
theorem dX9_kinds_54 : decode cX9_kinds 54 = .ok (.iconst 1, 1) := by decide +kernel
theorem dX9_kinds_55 : decode cX9_kinds 55 = .ok (.iaload, 1) := by decide +kernel
theorem dX9_kinds_56 : decode cX9_kinds 56 = .ok (.invokevirtual 254, 3) := by decide +kernel
theorem dX9_kinds_59 : decode cX9_kinds 59 = .ok (.ifCond .eq 10, 3) := by decide +kernel
theorem dX9_kinds_62 : decode cX9_kinds 62 = .ok (.iconst 1, 1) := by decide +kernel
theorem dX9_kinds_63 : decode cX9_kinds 63 = .ok (.iload 5, 2) := by decide +kernel
theorem dX9_kinds_65 : decode cX9_kinds 65 = .ok (.ishl, 1) := by decide +kernel
theorem dX9_kinds_66 : decode cX9_kinds 66 = .ok (.goto 4, 3) := by decide +kernel
theorem dX9_kinds_69 : decode cX9_kinds 69 = .ok (.iconst 0, 1) := by decide +kernel
theorem dX9_kinds_70 : decode cX9_kinds 70 = .ok (.ior, 1) := by decide +kernel
theorem dX9_kinds_71 : decode cX9_kinds 71 = .ok (.istore 4, 2) := by decide +kernel
theorem dX9_kinds_73 : decode cX9_kinds 73 = .ok (.iinc 5 1, 3) := by decide +kernel
theorem dX9_kinds_76 : decode cX9_kinds 76 = .ok (.goto (-57), 3) := by decide +kernel
theorem dX9_kinds_79 : decode cX9_kinds 79 = .ok (.iload 4, 2) := by decide +kernel
theorem dX9_kinds_81 : decode cX9_kinds 81 = .ok (.ireturn, 1) := by decide +kernel
theorem dX9_damps_0 : decode cX9_damps 0 = .ok (.aload_n 0, 1) := by decide +kernel
theorem dX9_damps_1 : decode cX9_damps 1 = .ok (.iload_n 1, 1) := by decide +kernel
theorem dX9_damps_2 : decode cX9_damps 2 = .ok (.iload_n 2, 1) := by decide +kernel
theorem dX9_damps_3 : decode cX9_damps 3 = .ok (.invokevirtual 251, 3) := by decide +kernel
theorem dX9_damps_6 : decode cX9_damps 6 = .ok (.istore_n 3, 1) := by decide +kernel
theorem dX9_damps_7 : decode cX9_damps 7 = .ok (.iload_n 3, 1) := by decide +kernel
theorem dX9_damps_8 : decode cX9_damps 8 = .ok (.ifCond .ge 5, 3) := by decide +kernel
theorem dX9_damps_11 : decode cX9_damps 11 = .ok (.iload_n 3, 1) := by decide +kernel
theorem dX9_damps_12 : decode cX9_damps 12 = .ok (.ireturn, 1) := by decide +kernel
theorem dX9_damps_13 : decode cX9_damps 13 = .ok (.iconst 0, 1) := by decide +kernel
theorem dX9_damps_14 : decode cX9_damps 14 = .ok (.istore 4, 2) := by decide +kernel
theorem dX9_damps_16 : decode cX9_damps 16 = .ok (.iconst 0, 1) := by decide +kernel
theorem dX9_damps_17 : decode cX9_damps 17 = .ok (.istore 5, 2) := by decide +kernel
theorem dX9_damps_19 : decode cX9_damps 19 = .ok (.iload 5, 2) := by decide +kernel
theorem dX9_damps_21 : decode cX9_damps 21 = .ok (.iconst 4, 1) := by decide +kernel
theorem dX9_damps_22 : decode cX9_damps 22 = .ok (.if_icmp .ge 58, 3) := by decide +kernel
theorem dX9_damps_25 : decode cX9_damps 25 = .ok (.iload 4, 2) := by decide +kernel
theorem dX9_damps_27 : decode cX9_damps 27 = .ok (.aload_n 0, 1) := by decide +kernel
theorem dX9_damps_28 : decode cX9_damps 28 = .ok (.iload_n 2, 1) := by decide +kernel
theorem dX9_damps_29 : decode cX9_damps 29 = .ok (.aload_n 0, 1) := by decide +kernel
theorem dX9_damps_30 : decode cX9_damps 30 = .ok (.getfield 7, 3) := by decide +kernel
theorem dX9_damps_33 : decode cX9_damps 33 = .ok (.iconst 2, 1) := by decide +kernel
theorem dX9_damps_34 : decode cX9_damps 34 = .ok (.iload_n 1, 1) := by decide +kernel
theorem dX9_damps_35 : decode cX9_damps 35 = .ok (.iadd, 1) := by decide +kernel
theorem dX9_damps_36 : decode cX9_damps 36 = .ok (.iaload, 1) := by decide +kernel
theorem dX9_damps_37 : decode cX9_damps 37 = .ok (.aload_n 0, 1) := by decide +kernel
theorem dX9_damps_38 : decode cX9_damps 38 = .ok (.getfield 7, 3) := by decide +kernel
theorem dX9_damps_41 : decode cX9_damps 41 = .ok (.bipush 8, 2) := by decide +kernel
theorem dX9_damps_43 : decode cX9_damps 43 = .ok (.iload_n 1, 1) := by decide +kernel
theorem dX9_damps_44 : decode cX9_damps 44 = .ok (.iadd, 1) := by decide +kernel
theorem dX9_damps_45 : decode cX9_damps 45 = .ok (.iaload, 1) := by decide +kernel
theorem dX9_damps_46 : decode cX9_damps 46 = .ok (.aload_n 0, 1) := by decide +kernel
theorem dX9_damps_47 : decode cX9_damps 47 = .ok (.getfield 7, 3) := by decide +kernel
theorem dX9_damps_50 : decode cX9_damps 50 = .ok (.bipush 14, 2) := by decide +kernel
theorem dX9_damps_52 : decode cX9_damps 52 = .ok (.iload_n 1, 1) := by decide +kernel
theorem dX9_damps_53 : decode cX9_damps 53 = .ok (.iadd, 1) := by decide +kernel
theorem dX9_damps_54 : decode cX9_damps 54 = .ok (.iaload, 1) := by decide +kernel
theorem dX9_damps_55 : decode cX9_damps 55 = .ok (.iload 5, 2) := by decide +kernel
theorem dX9_damps_57 : decode cX9_damps 57 = .ok (.invokevirtual 254, 3) := by decide +kernel
theorem dX9_damps_60 : decode cX9_damps 60 = .ok (.ifCond .eq 10, 3) := by decide +kernel
theorem dX9_damps_63 : decode cX9_damps 63 = .ok (.iconst 1, 1) := by decide +kernel
theorem dX9_damps_64 : decode cX9_damps 64 = .ok (.iload 5, 2) := by decide +kernel
theorem dX9_damps_66 : decode cX9_damps 66 = .ok (.ishl, 1) := by decide +kernel
theorem dX9_damps_67 : decode cX9_damps 67 = .ok (.goto 4, 3) := by decide +kernel
theorem dX9_damps_70 : decode cX9_damps 70 = .ok (.iconst 0, 1) := by decide +kernel
theorem dX9_damps_71 : decode cX9_damps 71 = .ok (.ior, 1) := by decide +kernel
theorem dX9_damps_72 : decode cX9_damps 72 = .ok (.istore 4, 2) := by decide +kernel
theorem dX9_damps_74 : decode cX9_damps 74 = .ok (.iinc 5 1, 3) := by decide +kernel
theorem dX9_damps_77 : decode cX9_damps 77 = .ok (.goto (-58), 3) := by decide +kernel
theorem dX9_damps_80 : decode cX9_damps 80 = .ok (.iload 4, 2) := by decide +kernel
theorem dX9_damps_82 : decode cX9_damps 82 = .ok (.ireturn, 1) := by decide +kernel
theorem dX9_heights_0 : decode cX9_heights 0 = .ok (.aload_n 0, 1) := by decide +kernel
theorem dX9_heights_1 : decode cX9_heights 1 = .ok (.iload_n 1, 1) := by decide +kernel
theorem dX9_heights_2 : decode cX9_heights 2 = .ok (.iload_n 2, 1) := by decide +kernel
theorem dX9_heights_3 : decode cX9_heights 3 = .ok (.invokevirtual 251, 3) := by decide +kernel
theorem dX9_heights_6 : decode cX9_heights 6 = .ok (.istore_n 3, 1) := by decide +kernel
theorem dX9_heights_7 : decode cX9_heights 7 = .ok (.iload_n 3, 1) := by decide +kernel
theorem dX9_heights_8 : decode cX9_heights 8 = .ok (.ifCond .ge 5, 3) := by decide +kernel
theorem dX9_heights_11 : decode cX9_heights 11 = .ok (.iload_n 3, 1) := by decide +kernel
theorem dX9_heights_12 : decode cX9_heights 12 = .ok (.ireturn, 1) := by decide +kernel
theorem dX9_heights_13 : decode cX9_heights 13 = .ok (.iconst 0, 1) := by decide +kernel
theorem dX9_heights_14 : decode cX9_heights 14 = .ok (.istore 4, 2) := by decide +kernel
theorem dX9_heights_16 : decode cX9_heights 16 = .ok (.iconst 0, 1) := by decide +kernel
theorem dX9_heights_17 : decode cX9_heights 17 = .ok (.istore 5, 2) := by decide +kernel
theorem dX9_heights_19 : decode cX9_heights 19 = .ok (.iload 5, 2) := by decide +kernel
theorem dX9_heights_21 : decode cX9_heights 21 = .ok (.bipush 20, 2) := by decide +kernel
theorem dX9_heights_23 : decode cX9_heights 23 = .ok (.if_icmp .gt 55, 3) := by decide +kernel
theorem dX9_heights_26 : decode cX9_heights 26 = .ok (.iload 4, 2) := by decide +kernel
theorem dX9_heights_28 : decode cX9_heights 28 = .ok (.aload_n 0, 1) := by decide +kernel
theorem dX9_heights_29 : decode cX9_heights 29 = .ok (.iload_n 2, 1) := by decide +kernel
theorem dX9_heights_30 : decode cX9_heights 30 = .ok (.aload_n 0, 1) := by decide +kernel
theorem dX9_heights_31 : decode cX9_heights 31 = .ok (.getfield 7, 3) := by decide +kernel
theorem dX9_heights_34 : decode cX9_heights 34 = .ok (.iconst 2, 1) := by decide +kernel
theorem dX9_heights_35 : decode cX9_heights 35 = .ok (.iload_n 1, 1) := by decide +kernel
theorem dX9_heights_36 : decode cX9_heights 36 = .ok (.iadd, 1) := by decide +kernel
theorem dX9_heights_37 : decode cX9_heights 37 = .ok (.iaload, 1) := by decide +kernel
theorem dX9_heights_38 : decode cX9_heights 38 = .ok (.aload_n 0, 1) := by decide +kernel
theorem dX9_heights_39 : decode cX9_heights 39 = .ok (.getfield 7, 3) := by decide +kernel
theorem dX9_heights_42 : decode cX9_heights 42 = .ok (.bipush 8, 2) := by decide +kernel
theorem dX9_heights_44 : decode cX9_heights 44 = .ok (.iload_n 1, 1) := by decide +kernel
theorem dX9_heights_45 : decode cX9_heights 45 = .ok (.iadd, 1) := by decide +kernel
theorem dX9_heights_46 : decode cX9_heights 46 = .ok (.iaload, 1) := by decide +kernel
theorem dX9_heights_47 : decode cX9_heights 47 = .ok (.iload 5, 2) := by decide +kernel
theorem dX9_heights_49 : decode cX9_heights 49 = .ok (.aload_n 0, 1) := by decide +kernel
theorem dX9_heights_50 : decode cX9_heights 50 = .ok (.getfield 7, 3) := by decide +kernel
theorem dX9_heights_53 : decode cX9_heights 53 = .ok (.iconst 1, 1) := by decide +kernel
theorem dX9_heights_54 : decode cX9_heights 54 = .ok (.iaload, 1) := by decide +kernel
theorem dX9_heights_55 : decode cX9_heights 55 = .ok (.invokevirtual 254, 3) := by decide +kernel
theorem dX9_heights_58 : decode cX9_heights 58 = .ok (.ifCond .eq 10, 3) := by decide +kernel
theorem dX9_heights_61 : decode cX9_heights 61 = .ok (.iconst 1, 1) := by decide +kernel
theorem dX9_heights_62 : decode cX9_heights 62 = .ok (.iload 5, 2) := by decide +kernel
theorem dX9_heights_64 : decode cX9_heights 64 = .ok (.ishl, 1) := by decide +kernel
theorem dX9_heights_65 : decode cX9_heights 65 = .ok (.goto 4, 3) := by decide +kernel
theorem dX9_heights_68 : decode cX9_heights 68 = .ok (.iconst 0, 1) := by decide +kernel
theorem dX9_heights_69 : decode cX9_heights 69 = .ok (.ior, 1) := by decide +kernel
theorem dX9_heights_70 : decode cX9_heights 70 = .ok (.istore 4, 2) := by decide +kernel
theorem dX9_heights_72 : decode cX9_heights 72 = .ok (.iinc 5 1, 3) := by decide +kernel
theorem dX9_heights_75 : decode cX9_heights 75 = .ok (.goto (-56), 3) := by decide +kernel
theorem dX9_heights_78 : decode cX9_heights 78 = .ok (.iload 4, 2) := by decide +kernel
theorem dX9_heights_80 : decode cX9_heights 80 = .ok (.ireturn, 1) := by decide +kernel
theorem dX9_broke_0 : decode cX9_broke 0 = .ok (.aload_n 0, 1) := by decide +kernel
theorem dX9_broke_1 : decode cX9_broke 1 = .ok (.iload_n 1, 1) := by decide +kernel
theorem dX9_broke_2 : decode cX9_broke 2 = .ok (.invokevirtual 145, 3) := by decide +kernel
theorem dX9_broke_5 : decode cX9_broke 5 = .ok (.ifCond .eq 10, 3) := by decide +kernel
theorem dX9_broke_8 : decode cX9_broke 8 = .ok (.iload_n 2, 1) := by decide +kernel
theorem dX9_broke_9 : decode cX9_broke 9 = .ok (.invokestatic 89, 3) := by decide +kernel
theorem dX9_broke_12 : decode cX9_broke 12 = .ok (.ifCond .ne 5, 3) := by decide +kernel
theorem dX9_broke_15 : decode cX9_broke 15 = .ok (.iconst (-1), 1) := by decide +kernel
theorem dX9_broke_16 : decode cX9_broke 16 = .ok (.ireturn, 1) := by decide +kernel
theorem dX9_broke_17 : decode cX9_broke 17 = .ok (.aload_n 0, 1) := by decide +kernel
theorem dX9_broke_18 : decode cX9_broke 18 = .ok (.iload_n 1, 1) := by decide +kernel
theorem dX9_broke_19 : decode cX9_broke 19 = .ok (.invokevirtual 175, 3) := by decide +kernel
theorem dX9_broke_22 : decode cX9_broke 22 = .ok (.ifCond .eq 6, 3) := by decide +kernel
theorem dX9_broke_25 : decode cX9_broke 25 = .ok (.bipush (-4), 2) := by decide +kernel
theorem dX9_broke_27 : decode cX9_broke 27 = .ok (.ireturn, 1) := by decide +kernel
theorem dX9_broke_28 : decode cX9_broke 28 = .ok (.aload_n 0, 1) := by decide +kernel
theorem dX9_broke_29 : decode cX9_broke 29 = .ok (.getfield 19, 3) := by decide +kernel
theorem dX9_broke_32 : decode cX9_broke 32 = .ok (.iload_n 2, 1) := by decide +kernel
theorem dX9_broke_33 : decode cX9_broke 33 = .ok (.iaload, 1) := by decide +kernel
theorem dX9_broke_34 : decode cX9_broke 34 = .ok (.ifCond .ge 9, 3) := by decide +kernel
theorem dX9_broke_37 : decode cX9_broke 37 = .ok (.aload_n 0, 1) := by decide +kernel
theorem dX9_broke_38 : decode cX9_broke 38 = .ok (.iconst 1, 1) := by decide +kernel
theorem dX9_broke_39 : decode cX9_broke 39 = .ok (.invokevirtual 93, 3) := by decide +kernel
theorem dX9_broke_42 : decode cX9_broke 42 = .ok (.ireturn, 1) := by decide +kernel
theorem dX9_broke_43 : decode cX9_broke 43 = .ok (.iconst 0, 1) := by decide +kernel
theorem dX9_broke_44 : decode cX9_broke 44 = .ok (.istore_n 3, 1) := by decide +kernel
theorem dX9_broke_45 : decode cX9_broke 45 = .ok (.iload_n 3, 1) := by decide +kernel
theorem dX9_broke_46 : decode cX9_broke 46 = .ok (.aload_n 0, 1) := by decide +kernel
theorem dX9_broke_47 : decode cX9_broke 47 = .ok (.getfield 19, 3) := by decide +kernel
theorem dX9_broke_50 : decode cX9_broke 50 = .ok (.iload_n 2, 1) := by decide +kernel
theorem dX9_broke_51 : decode cX9_broke 51 = .ok (.iaload, 1) := by decide +kernel
theorem dX9_broke_52 : decode cX9_broke 52 = .ok (.if_icmp .ge 32, 3) := by decide +kernel
theorem dX9_broke_55 : decode cX9_broke 55 = .ok (.aload_n 0, 1) := by decide +kernel
theorem dX9_broke_56 : decode cX9_broke 56 = .ok (.getfield 16, 3) := by decide +kernel
theorem dX9_broke_59 : decode cX9_broke 59 = .ok (.bipush 40, 2) := by decide +kernel
theorem dX9_broke_61 : decode cX9_broke 61 = .ok (.iload_n 2, 1) := by decide +kernel
theorem dX9_broke_62 : decode cX9_broke 62 = .ok (.imul, 1) := by decide +kernel
theorem dX9_broke_63 : decode cX9_broke 63 = .ok (.iload_n 3, 1) := by decide +kernel
theorem dX9_broke_64 : decode cX9_broke 64 = .ok (.iadd, 1) := by decide +kernel
theorem dX9_broke_65 : decode cX9_broke 65 = .ok (.iaload, 1) := by decide +kernel
theorem dX9_broke_66 : decode cX9_broke 66 = .ok (.invokestatic 172, 3) := by decide +kernel
theorem dX9_broke_69 : decode cX9_broke 69 = .ok (.ifCond .ne 9, 3) := by decide +kernel
theorem dX9_broke_72 : decode cX9_broke 72 = .ok (.aload_n 0, 1) := by decide +kernel
theorem dX9_broke_73 : decode cX9_broke 73 = .ok (.iconst 3, 1) := by decide +kernel
theorem dX9_broke_74 : decode cX9_broke 74 = .ok (.invokevirtual 93, 3) := by decide +kernel
theorem dX9_broke_77 : decode cX9_broke 77 = .ok (.ireturn, 1) := by decide +kernel
theorem dX9_broke_78 : decode cX9_broke 78 = .ok (.iinc 3 1, 3) := by decide +kernel
theorem dX9_broke_81 : decode cX9_broke 81 = .ok (.goto (-36), 3) := by decide +kernel
theorem dX9_broke_84 : decode cX9_broke 84 = .ok (.aload_n 0, 1) := by decide +kernel
theorem dX9_broke_85 : decode cX9_broke 85 = .ok (.getfield 7, 3) := by decide +kernel
theorem dX9_broke_88 : decode cX9_broke 88 = .ok (.bipush 14, 2) := by decide +kernel
theorem dX9_broke_90 : decode cX9_broke 90 = .ok (.iload_n 1, 1) := by decide +kernel
theorem dX9_broke_91 : decode cX9_broke 91 = .ok (.iadd, 1) := by decide +kernel
theorem dX9_broke_92 : decode cX9_broke 92 = .ok (.iaload, 1) := by decide +kernel
theorem dX9_broke_93 : decode cX9_broke 93 = .ok (.istore_n 3, 1) := by decide +kernel
theorem dX9_broke_94 : decode cX9_broke 94 = .ok (.iconst 0, 1) := by decide +kernel
theorem dX9_broke_95 : decode cX9_broke 95 = .ok (.istore 4, 2) := by decide +kernel
theorem dX9_broke_97 : decode cX9_broke 97 = .ok (.iload 4, 2) := by decide +kernel
theorem dX9_broke_99 : decode cX9_broke 99 = .ok (.aload_n 0, 1) := by decide +kernel
theorem dX9_broke_100 : decode cX9_broke 100 = .ok (.getfield 19, 3) := by decide +kernel
theorem dX9_broke_103 : decode cX9_broke 103 = .ok (.iload_n 2, 1) := by decide +kernel
theorem dX9_broke_104 : decode cX9_broke 104 = .ok (.iaload, 1) := by decide +kernel
theorem dX9_broke_105 : decode cX9_broke 105 = .ok (.if_icmp .ge 50, 3) := by decide +kernel
theorem dX9_broke_108 : decode cX9_broke 108 = .ok (.aload_n 0, 1) := by decide +kernel
theorem dX9_broke_109 : decode cX9_broke 109 = .ok (.getfield 7, 3) := by decide +kernel
theorem dX9_broke_112 : decode cX9_broke 112 = .ok (.iconst 2, 1) := by decide +kernel
theorem dX9_broke_113 : decode cX9_broke 113 = .ok (.iload_n 1, 1) := by decide +kernel
theorem dX9_broke_114 : decode cX9_broke 114 = .ok (.iadd, 1) := by decide +kernel
theorem dX9_broke_115 : decode cX9_broke 115 = .ok (.iaload, 1) := by decide +kernel
theorem dX9_broke_116 : decode cX9_broke 116 = .ok (.iload_n 3, 1) := by decide +kernel
theorem dX9_broke_117 : decode cX9_broke 117 = .ok (.aload_n 0, 1) := by decide +kernel
theorem dX9_broke_118 : decode cX9_broke 118 = .ok (.getfield 16, 3) := by decide +kernel
theorem dX9_broke_121 : decode cX9_broke 121 = .ok (.bipush 40, 2) := by decide +kernel
theorem dX9_broke_123 : decode cX9_broke 123 = .ok (.iload_n 2, 1) := by decide +kernel
theorem dX9_broke_124 : decode cX9_broke 124 = .ok (.imul, 1) := by decide +kernel
theorem dX9_broke_125 : decode cX9_broke 125 = .ok (.iload 4, 2) := by decide +kernel
theorem dX9_broke_127 : decode cX9_broke 127 = .ok (.iadd, 1) := by decide +kernel
theorem dX9_broke_128 : decode cX9_broke 128 = .ok (.iaload, 1) := by decide +kernel
theorem dX9_broke_129 : decode cX9_broke 129 = .ok (.invokestatic 157, 3) := by decide +kernel
theorem dX9_broke_132 : decode cX9_broke 132 = .ok (.istore_n 3, 1) := by decide +kernel
theorem dX9_broke_133 : decode cX9_broke 133 = .ok (.iload_n 3, 1) := by decide +kernel
theorem dX9_broke_134 : decode cX9_broke 134 = .ok (.iconst (-1), 1) := by decide +kernel
theorem dX9_broke_135 : decode cX9_broke 135 = .ok (.if_icmp .ne 14, 3) := by decide +kernel
theorem dX9_broke_138 : decode cX9_broke 138 = .ok (.aload_n 0, 1) := by decide +kernel
theorem dX9_broke_139 : decode cX9_broke 139 = .ok (.iload 4, 2) := by decide +kernel
theorem dX9_broke_141 : decode cX9_broke 141 = .ok (.iconst 2, 1) := by decide +kernel
theorem dX9_broke_142 : decode cX9_broke 142 = .ok (.irem, 1) := by decide +kernel
theorem dX9_broke_143 : decode cX9_broke 143 = .ok (.iload 4, 2) := by decide +kernel
theorem dX9_broke_145 : decode cX9_broke 145 = .ok (.invokevirtual 105, 3) := by decide +kernel
theorem dX9_broke_148 : decode cX9_broke 148 = .ok (.ireturn, 1) := by decide +kernel
theorem dX9_broke_149 : decode cX9_broke 149 = .ok (.iinc 4 1, 3) := by decide +kernel
theorem dX9_broke_152 : decode cX9_broke 152 = .ok (.goto (-55), 3) := by decide +kernel
theorem dX9_broke_155 : decode cX9_broke 155 = .ok (.bipush (-9), 2) := by decide +kernel
theorem dX9_broke_157 : decode cX9_broke 157 = .ok (.ireturn, 1) := by decide +kernel
theorem dX9_laySlips_0 : decode cX9_laySlips 0 = .ok (.lconst 1, 1) := by decide +kernel
theorem dX9_laySlips_1 : decode cX9_laySlips 1 = .ok (.lstore 5, 2) := by decide +kernel
theorem dX9_laySlips_3 : decode cX9_laySlips 3 = .ok (.iconst 0, 1) := by decide +kernel
theorem dX9_laySlips_4 : decode cX9_laySlips 4 = .ok (.istore 7, 2) := by decide +kernel
theorem dX9_laySlips_6 : decode cX9_laySlips 6 = .ok (.iload 7, 2) := by decide +kernel
theorem dX9_laySlips_8 : decode cX9_laySlips 8 = .ok (.bipush 20, 2) := by decide +kernel
theorem dX9_laySlips_10 : decode cX9_laySlips 10 = .ok (.if_icmp .gt 35, 3) := by decide +kernel
theorem dX9_laySlips_13 : decode cX9_laySlips 13 = .ok (.aload_n 0, 1) := by decide +kernel
theorem dX9_laySlips_14 : decode cX9_laySlips 14 = .ok (.getfield 68, 3) := by decide +kernel
theorem dX9_laySlips_17 : decode cX9_laySlips 17 = .ok (.iload 7, 2) := by decide +kernel
theorem dX9_laySlips_19 : decode cX9_laySlips 19 = .ok (.iload 7, 2) := by decide +kernel
theorem dX9_laySlips_21 : decode cX9_laySlips 21 = .ok (.aload_n 0, 1) := by decide +kernel
theorem dX9_laySlips_22 : decode cX9_laySlips 22 = .ok (.getfield 7, 3) := by decide +kernel
theorem dX9_laySlips_25 : decode cX9_laySlips 25 = .ok (.bipush 14, 2) := by decide +kernel
theorem dX9_laySlips_27 : decode cX9_laySlips 27 = .ok (.iload_n 1, 1) := by decide +kernel
theorem dX9_laySlips_28 : decode cX9_laySlips 28 = .ok (.iadd, 1) := by decide +kernel
theorem dX9_laySlips_29 : decode cX9_laySlips 29 = .ok (.iaload, 1) := by decide +kernel
theorem dX9_laySlips_30 : decode cX9_laySlips 30 = .ok (.if_icmp .ne 7, 3) := by decide +kernel
theorem dX9_laySlips_33 : decode cX9_laySlips 33 = .ok (.lconst 1, 1) := by decide +kernel
theorem dX9_laySlips_34 : decode cX9_laySlips 34 = .ok (.goto 4, 3) := by decide +kernel
theorem dX9_laySlips_37 : decode cX9_laySlips 37 = .ok (.lconst 0, 1) := by decide +kernel
theorem dX9_laySlips_38 : decode cX9_laySlips 38 = .ok (.lastore, 1) := by decide +kernel
theorem dX9_laySlips_39 : decode cX9_laySlips 39 = .ok (.iinc 7 1, 3) := by decide +kernel
theorem dX9_laySlips_42 : decode cX9_laySlips 42 = .ok (.goto (-36), 3) := by decide +kernel
theorem dX9_laySlips_45 : decode cX9_laySlips 45 = .ok (.iconst 0, 1) := by decide +kernel
theorem dX9_laySlips_46 : decode cX9_laySlips 46 = .ok (.istore 7, 2) := by decide +kernel
theorem dX9_laySlips_48 : decode cX9_laySlips 48 = .ok (.iload 7, 2) := by decide +kernel
theorem dX9_laySlips_50 : decode cX9_laySlips 50 = .ok (.iload_n 3, 1) := by decide +kernel
theorem dX9_laySlips_51 : decode cX9_laySlips 51 = .ok (.if_icmp .ge 206, 3) := by decide +kernel
theorem dX9_laySlips_54 : decode cX9_laySlips 54 = .ok (.lload 5, 2) := by decide +kernel
theorem dX9_laySlips_56 : decode cX9_laySlips 56 = .ok (.ldc2_w 212, 3) := by decide +kernel
theorem dX9_laySlips_59 : decode cX9_laySlips 59 = .ok (.lmul, 1) := by decide +kernel
theorem dX9_laySlips_60 : decode cX9_laySlips 60 = .ok (.lstore 5, 2) := by decide +kernel
theorem dX9_laySlips_62 : decode cX9_laySlips 62 = .ok (.iconst 0, 1) := by decide +kernel
theorem dX9_laySlips_63 : decode cX9_laySlips 63 = .ok (.istore 8, 2) := by decide +kernel
theorem dX9_laySlips_65 : decode cX9_laySlips 65 = .ok (.iload 8, 2) := by decide +kernel
theorem dX9_laySlips_67 : decode cX9_laySlips 67 = .ok (.bipush 20, 2) := by decide +kernel
theorem dX9_laySlips_69 : decode cX9_laySlips 69 = .ok (.if_icmp .gt 17, 3) := by decide +kernel
theorem dX9_laySlips_72 : decode cX9_laySlips 72 = .ok (.aload_n 0, 1) := by decide +kernel
theorem dX9_laySlips_73 : decode cX9_laySlips 73 = .ok (.getfield 71, 3) := by decide +kernel
theorem dX9_laySlips_76 : decode cX9_laySlips 76 = .ok (.iload 8, 2) := by decide +kernel
theorem dX9_laySlips_78 : decode cX9_laySlips 78 = .ok (.lconst 0, 1) := by decide +kernel
theorem dX9_laySlips_79 : decode cX9_laySlips 79 = .ok (.lastore, 1) := by decide +kernel
theorem dX9_laySlips_80 : decode cX9_laySlips 80 = .ok (.iinc 8 1, 3) := by decide +kernel
theorem dX9_laySlips_83 : decode cX9_laySlips 83 = .ok (.goto (-18), 3) := by decide +kernel
theorem dX9_laySlips_86 : decode cX9_laySlips 86 = .ok (.iconst 0, 1) := by decide +kernel
theorem dX9_laySlips_87 : decode cX9_laySlips 87 = .ok (.istore 8, 2) := by decide +kernel
theorem dX9_laySlips_89 : decode cX9_laySlips 89 = .ok (.iload 8, 2) := by decide +kernel
theorem dX9_laySlips_91 : decode cX9_laySlips 91 = .ok (.bipush 20, 2) := by decide +kernel
theorem dX9_laySlips_93 : decode cX9_laySlips 93 = .ok (.if_icmp .gt 128, 3) := by decide +kernel
theorem dX9_laySlips_96 : decode cX9_laySlips 96 = .ok (.aload_n 0, 1) := by decide +kernel
theorem dX9_laySlips_97 : decode cX9_laySlips 97 = .ok (.getfield 7, 3) := by decide +kernel
theorem dX9_laySlips_100 : decode cX9_laySlips 100 = .ok (.iconst 2, 1) := by decide +kernel
theorem dX9_laySlips_101 : decode cX9_laySlips 101 = .ok (.iload_n 1, 1) := by decide +kernel
theorem dX9_laySlips_102 : decode cX9_laySlips 102 = .ok (.iadd, 1) := by decide +kernel
theorem dX9_laySlips_103 : decode cX9_laySlips 103 = .ok (.iaload, 1) := by decide +kernel
theorem dX9_laySlips_104 : decode cX9_laySlips 104 = .ok (.iload 8, 2) := by decide +kernel
theorem dX9_laySlips_106 : decode cX9_laySlips 106 = .ok (.iload_n 2, 1) := by decide +kernel
theorem dX9_laySlips_107 : decode cX9_laySlips 107 = .ok (.invokestatic 157, 3) := by decide +kernel
theorem dX9_laySlips_110 : decode cX9_laySlips 110 = .ok (.istore 9, 2) := by decide +kernel
theorem dX9_laySlips_112 : decode cX9_laySlips 112 = .ok (.aload_n 0, 1) := by decide +kernel
theorem dX9_laySlips_113 : decode cX9_laySlips 113 = .ok (.getfield 7, 3) := by decide +kernel
theorem dX9_laySlips_116 : decode cX9_laySlips 116 = .ok (.iconst 2, 1) := by decide +kernel
theorem dX9_laySlips_117 : decode cX9_laySlips 117 = .ok (.iload_n 1, 1) := by decide +kernel
theorem dX9_laySlips_118 : decode cX9_laySlips 118 = .ok (.iadd, 1) := by decide +kernel
theorem dX9_laySlips_119 : decode cX9_laySlips 119 = .ok (.iaload, 1) := by decide +kernel
theorem dX9_laySlips_120 : decode cX9_laySlips 120 = .ok (.iload 8, 2) := by decide +kernel
theorem dX9_laySlips_122 : decode cX9_laySlips 122 = .ok (.iload_n 2, 1) := by decide +kernel
theorem dX9_laySlips_123 : decode cX9_laySlips 123 = .ok (.iconst 1, 1) := by decide +kernel
theorem dX9_laySlips_124 : decode cX9_laySlips 124 = .ok (.iadd, 1) := by decide +kernel
theorem dX9_laySlips_125 : decode cX9_laySlips 125 = .ok (.invokestatic 157, 3) := by decide +kernel
theorem dX9_laySlips_128 : decode cX9_laySlips 128 = .ok (.istore 10, 2) := by decide +kernel
theorem dX9_laySlips_130 : decode cX9_laySlips 130 = .ok (.aload_n 0, 1) := by decide +kernel
theorem dX9_laySlips_131 : decode cX9_laySlips 131 = .ok (.getfield 71, 3) := by decide +kernel
theorem dX9_laySlips_134 : decode cX9_laySlips 134 = .ok (.iload 9, 2) := by decide +kernel
theorem dX9_laySlips_136 : decode cX9_laySlips 136 = .ok (.iconst (-1), 1) := by decide +kernel
theorem dX9_laySlips_137 : decode cX9_laySlips 137 = .ok (.if_icmp .ne 7, 3) := by decide +kernel
theorem dX9_laySlips_140 : decode cX9_laySlips 140 = .ok (.iconst 0, 1) := by decide +kernel
theorem dX9_laySlips_141 : decode cX9_laySlips 141 = .ok (.goto 5, 3) := by decide +kernel
theorem dX9_laySlips_144 : decode cX9_laySlips 144 = .ok (.iload 9, 2) := by decide +kernel
theorem dX9_laySlips_146 : decode cX9_laySlips 146 = .ok (.dup2, 1) := by decide +kernel
theorem dX9_laySlips_147 : decode cX9_laySlips 147 = .ok (.laload, 1) := by decide +kernel
theorem dX9_laySlips_148 : decode cX9_laySlips 148 = .ok (.iload 9, 2) := by decide +kernel
theorem dX9_laySlips_150 : decode cX9_laySlips 150 = .ok (.iconst (-1), 1) := by decide +kernel
theorem dX9_laySlips_151 : decode cX9_laySlips 151 = .ok (.if_icmp .ne 7, 3) := by decide +kernel
theorem dX9_laySlips_154 : decode cX9_laySlips 154 = .ok (.lconst 0, 1) := by decide +kernel
theorem dX9_laySlips_155 : decode cX9_laySlips 155 = .ok (.goto 17, 3) := by decide +kernel
theorem dX9_laySlips_158 : decode cX9_laySlips 158 = .ok (.aload_n 0, 1) := by decide +kernel
theorem dX9_laySlips_159 : decode cX9_laySlips 159 = .ok (.getfield 68, 3) := by decide +kernel
theorem dX9_laySlips_162 : decode cX9_laySlips 162 = .ok (.iload 8, 2) := by decide +kernel
theorem dX9_laySlips_164 : decode cX9_laySlips 164 = .ok (.laload, 1) := by decide +kernel
theorem dX9_laySlips_165 : decode cX9_laySlips 165 = .ok (.bipush 12, 2) := by decide +kernel
theorem dX9_laySlips_167 : decode cX9_laySlips 167 = .ok (.iload 4, 2) := by decide +kernel
theorem dX9_laySlips_169 : decode cX9_laySlips 169 = .ok (.isub, 1) := by decide +kernel
theorem dX9_laySlips_170 : decode cX9_laySlips 170 = .ok (.i2l, 1) := by decide +kernel
theorem dX9_laySlips_171 : decode cX9_laySlips 171 = .ok (.lmul, 1) := by decide +kernel
theorem dX9_laySlips_172 : decode cX9_laySlips 172 = .ok (.ladd, 1) := by decide +kernel
theorem dX9_laySlips_173 : decode cX9_laySlips 173 = .ok (.lastore, 1) := by decide +kernel
theorem dX9_laySlips_174 : decode cX9_laySlips 174 = .ok (.aload_n 0, 1) := by decide +kernel
theorem dX9_laySlips_175 : decode cX9_laySlips 175 = .ok (.getfield 71, 3) := by decide +kernel
theorem dX9_laySlips_178 : decode cX9_laySlips 178 = .ok (.iload 10, 2) := by decide +kernel
theorem dX9_laySlips_180 : decode cX9_laySlips 180 = .ok (.iconst (-1), 1) := by decide +kernel
theorem dX9_laySlips_181 : decode cX9_laySlips 181 = .ok (.if_icmp .ne 7, 3) := by decide +kernel
theorem dX9_laySlips_184 : decode cX9_laySlips 184 = .ok (.iconst 0, 1) := by decide +kernel
theorem dX9_laySlips_185 : decode cX9_laySlips 185 = .ok (.goto 5, 3) := by decide +kernel
theorem dX9_laySlips_188 : decode cX9_laySlips 188 = .ok (.iload 10, 2) := by decide +kernel
theorem dX9_laySlips_190 : decode cX9_laySlips 190 = .ok (.dup2, 1) := by decide +kernel
theorem dX9_laySlips_191 : decode cX9_laySlips 191 = .ok (.laload, 1) := by decide +kernel
theorem dX9_laySlips_192 : decode cX9_laySlips 192 = .ok (.iload 10, 2) := by decide +kernel
theorem dX9_laySlips_194 : decode cX9_laySlips 194 = .ok (.iconst (-1), 1) := by decide +kernel
theorem dX9_laySlips_195 : decode cX9_laySlips 195 = .ok (.if_icmp .ne 7, 3) := by decide +kernel
theorem dX9_laySlips_198 : decode cX9_laySlips 198 = .ok (.lconst 0, 1) := by decide +kernel
theorem dX9_laySlips_199 : decode cX9_laySlips 199 = .ok (.goto 14, 3) := by decide +kernel
theorem dX9_laySlips_202 : decode cX9_laySlips 202 = .ok (.aload_n 0, 1) := by decide +kernel
theorem dX9_laySlips_203 : decode cX9_laySlips 203 = .ok (.getfield 68, 3) := by decide +kernel
theorem dX9_laySlips_206 : decode cX9_laySlips 206 = .ok (.iload 8, 2) := by decide +kernel
theorem dX9_laySlips_208 : decode cX9_laySlips 208 = .ok (.laload, 1) := by decide +kernel
theorem dX9_laySlips_209 : decode cX9_laySlips 209 = .ok (.iload 4, 2) := by decide +kernel
theorem dX9_laySlips_211 : decode cX9_laySlips 211 = .ok (.i2l, 1) := by decide +kernel
theorem dX9_laySlips_212 : decode cX9_laySlips 212 = .ok (.lmul, 1) := by decide +kernel
theorem dX9_laySlips_213 : decode cX9_laySlips 213 = .ok (.ladd, 1) := by decide +kernel
theorem dX9_laySlips_214 : decode cX9_laySlips 214 = .ok (.lastore, 1) := by decide +kernel
theorem dX9_laySlips_215 : decode cX9_laySlips 215 = .ok (.iinc 8 1, 3) := by decide +kernel
theorem dX9_laySlips_218 : decode cX9_laySlips 218 = .ok (.goto (-129), 3) := by decide +kernel
theorem dX9_laySlips_221 : decode cX9_laySlips 221 = .ok (.iconst 0, 1) := by decide +kernel
theorem dX9_laySlips_222 : decode cX9_laySlips 222 = .ok (.istore 8, 2) := by decide +kernel
theorem dX9_laySlips_224 : decode cX9_laySlips 224 = .ok (.iload 8, 2) := by decide +kernel
theorem dX9_laySlips_226 : decode cX9_laySlips 226 = .ok (.bipush 20, 2) := by decide +kernel
theorem dX9_laySlips_228 : decode cX9_laySlips 228 = .ok (.if_icmp .gt 23, 3) := by decide +kernel
theorem dX9_laySlips_231 : decode cX9_laySlips 231 = .ok (.aload_n 0, 1) := by decide +kernel
theorem dX9_laySlips_232 : decode cX9_laySlips 232 = .ok (.getfield 68, 3) := by decide +kernel
theorem dX9_laySlips_235 : decode cX9_laySlips 235 = .ok (.iload 8, 2) := by decide +kernel
theorem dX9_laySlips_237 : decode cX9_laySlips 237 = .ok (.aload_n 0, 1) := by decide +kernel
theorem dX9_laySlips_238 : decode cX9_laySlips 238 = .ok (.getfield 71, 3) := by decide +kernel
theorem dX9_laySlips_241 : decode cX9_laySlips 241 = .ok (.iload 8, 2) := by decide +kernel
theorem dX9_laySlips_243 : decode cX9_laySlips 243 = .ok (.laload, 1) := by decide +kernel
theorem dX9_laySlips_244 : decode cX9_laySlips 244 = .ok (.lastore, 1) := by decide +kernel
theorem dX9_laySlips_245 : decode cX9_laySlips 245 = .ok (.iinc 8 1, 3) := by decide +kernel
theorem dX9_laySlips_248 : decode cX9_laySlips 248 = .ok (.goto (-24), 3) := by decide +kernel
theorem dX9_laySlips_251 : decode cX9_laySlips 251 = .ok (.iinc 7 1, 3) := by decide +kernel
theorem dX9_laySlips_254 : decode cX9_laySlips 254 = .ok (.goto (-206), 3) := by decide +kernel
theorem dX9_laySlips_257 : decode cX9_laySlips 257 = .ok (.lload 5, 2) := by decide +kernel
theorem dX9_laySlips_259 : decode cX9_laySlips 259 = .ok (.lreturn, 1) := by decide +kernel
theorem dX9_chance_0 : decode cX9_chance 0 = .ok (.lload_n 1, 1) := by decide +kernel
theorem dX9_chance_1 : decode cX9_chance 1 = .ok (.lstore 5, 2) := by decide +kernel
theorem dX9_chance_3 : decode cX9_chance 3 = .ok (.lload_n 3, 1) := by decide +kernel
theorem dX9_chance_4 : decode cX9_chance 4 = .ok (.lstore 7, 2) := by decide +kernel
theorem dX9_chance_6 : decode cX9_chance 6 = .ok (.lload 7, 2) := by decide +kernel
theorem dX9_chance_8 : decode cX9_chance 8 = .ok (.lconst 0, 1) := by decide +kernel
theorem dX9_chance_9 : decode cX9_chance 9 = .ok (.lcmp, 1) := by decide +kernel
theorem dX9_chance_10 : decode cX9_chance 10 = .ok (.ifCond .eq 21, 3) := by decide +kernel
theorem dX9_chance_13 : decode cX9_chance 13 = .ok (.lload 5, 2) := by decide +kernel
theorem dX9_chance_15 : decode cX9_chance 15 = .ok (.lload 7, 2) := by decide +kernel
theorem dX9_chance_17 : decode cX9_chance 17 = .ok (.lrem, 1) := by decide +kernel
theorem dX9_chance_18 : decode cX9_chance 18 = .ok (.lstore 9, 2) := by decide +kernel
theorem dX9_chance_20 : decode cX9_chance 20 = .ok (.lload 7, 2) := by decide +kernel
theorem dX9_chance_22 : decode cX9_chance 22 = .ok (.lstore 5, 2) := by decide +kernel
theorem dX9_chance_24 : decode cX9_chance 24 = .ok (.lload 9, 2) := by decide +kernel
theorem dX9_chance_26 : decode cX9_chance 26 = .ok (.lstore 7, 2) := by decide +kernel
theorem dX9_chance_28 : decode cX9_chance 28 = .ok (.goto (-22), 3) := by decide +kernel
theorem dX9_chance_31 : decode cX9_chance 31 = .ok (.aload_n 0, 1) := by decide +kernel
theorem dX9_chance_32 : decode cX9_chance 32 = .ok (.lload_n 1, 1) := by decide +kernel
theorem dX9_chance_33 : decode cX9_chance 33 = .ok (.lload 5, 2) := by decide +kernel
theorem dX9_chance_35 : decode cX9_chance 35 = .ok (.ldiv, 1) := by decide +kernel
theorem dX9_chance_36 : decode cX9_chance 36 = .ok (.putfield 214, 3) := by decide +kernel
theorem dX9_chance_39 : decode cX9_chance 39 = .ok (.aload_n 0, 1) := by decide +kernel
theorem dX9_chance_40 : decode cX9_chance 40 = .ok (.lload_n 3, 1) := by decide +kernel
theorem dX9_chance_41 : decode cX9_chance 41 = .ok (.lload 5, 2) := by decide +kernel
theorem dX9_chance_43 : decode cX9_chance 43 = .ok (.ldiv, 1) := by decide +kernel
theorem dX9_chance_44 : decode cX9_chance 44 = .ok (.putfield 34, 3) := by decide +kernel
theorem dX9_chance_47 : decode cX9_chance 47 = .ok (.iconst 1, 1) := by decide +kernel
theorem dX9_chance_48 : decode cX9_chance 48 = .ok (.ireturn, 1) := by decide +kernel
theorem dX9_againstSlips_0 : decode cX9_againstSlips 0 = .ok (.aload_n 0, 1) := by decide +kernel
theorem dX9_againstSlips_1 : decode cX9_againstSlips 1 = .ok (.iload_n 1, 1) := by decide +kernel
theorem dX9_againstSlips_2 : decode cX9_againstSlips 2 = .ok (.invokevirtual 145, 3) := by decide +kernel
theorem dX9_againstSlips_5 : decode cX9_againstSlips 5 = .ok (.ifCond .eq 35, 3) := by decide +kernel
theorem dX9_againstSlips_8 : decode cX9_againstSlips 8 = .ok (.iload_n 2, 1) := by decide +kernel
theorem dX9_againstSlips_9 : decode cX9_againstSlips 9 = .ok (.invokestatic 172, 3) := by decide +kernel
theorem dX9_againstSlips_12 : decode cX9_againstSlips 12 = .ok (.ifCond .eq 28, 3) := by decide +kernel
theorem dX9_againstSlips_15 : decode cX9_againstSlips 15 = .ok (.iload_n 3, 1) := by decide +kernel
theorem dX9_againstSlips_16 : decode cX9_againstSlips 16 = .ok (.i2l, 1) := by decide +kernel
theorem dX9_againstSlips_17 : decode cX9_againstSlips 17 = .ok (.lconst 0, 1) := by decide +kernel
theorem dX9_againstSlips_18 : decode cX9_againstSlips 18 = .ok (.ldc2_w 258, 3) := by decide +kernel
theorem dX9_againstSlips_21 : decode cX9_againstSlips 21 = .ok (.invokestatic 83, 3) := by decide +kernel
theorem dX9_againstSlips_24 : decode cX9_againstSlips 24 = .ok (.ifCond .eq 16, 3) := by decide +kernel
theorem dX9_againstSlips_27 : decode cX9_againstSlips 27 = .ok (.iload 4, 2) := by decide +kernel
theorem dX9_againstSlips_29 : decode cX9_againstSlips 29 = .ok (.i2l, 1) := by decide +kernel
theorem dX9_againstSlips_30 : decode cX9_againstSlips 30 = .ok (.lconst 0, 1) := by decide +kernel
theorem dX9_againstSlips_31 : decode cX9_againstSlips 31 = .ok (.ldc2_w 212, 3) := by decide +kernel
theorem dX9_againstSlips_34 : decode cX9_againstSlips 34 = .ok (.invokestatic 83, 3) := by decide +kernel
theorem dX9_againstSlips_37 : decode cX9_againstSlips 37 = .ok (.ifCond .ne 5, 3) := by decide +kernel
theorem dX9_againstSlips_40 : decode cX9_againstSlips 40 = .ok (.iconst (-1), 1) := by decide +kernel
theorem dX9_againstSlips_41 : decode cX9_againstSlips 41 = .ok (.ireturn, 1) := by decide +kernel
theorem dX9_againstSlips_42 : decode cX9_againstSlips 42 = .ok (.aload_n 0, 1) := by decide +kernel
theorem dX9_againstSlips_43 : decode cX9_againstSlips 43 = .ok (.iload_n 1, 1) := by decide +kernel
theorem dX9_againstSlips_44 : decode cX9_againstSlips 44 = .ok (.invokevirtual 175, 3) := by decide +kernel
theorem dX9_againstSlips_47 : decode cX9_againstSlips 47 = .ok (.ifCond .eq 8, 3) := by decide +kernel
theorem dX9_againstSlips_50 : decode cX9_againstSlips 50 = .ok (.bipush (-4), 2) := by decide +kernel
theorem dX9_againstSlips_52 : decode cX9_againstSlips 52 = .ok (.goto 4, 3) := by decide +kernel
theorem dX9_againstSlips_55 : decode cX9_againstSlips 55 = .ok (.iconst 0, 1) := by decide +kernel
theorem dX9_againstSlips_56 : decode cX9_againstSlips 56 = .ok (.ireturn, 1) := by decide +kernel
theorem dX9_odds_0 : decode cX9_odds 0 = .ok (.aload_n 0, 1) := by decide +kernel
theorem dX9_odds_1 : decode cX9_odds 1 = .ok (.iload_n 1, 1) := by decide +kernel
theorem dX9_odds_2 : decode cX9_odds 2 = .ok (.iload_n 2, 1) := by decide +kernel
theorem dX9_odds_3 : decode cX9_odds 3 = .ok (.iload_n 3, 1) := by decide +kernel
theorem dX9_odds_4 : decode cX9_odds 4 = .ok (.iload 4, 2) := by decide +kernel
theorem dX9_odds_6 : decode cX9_odds 6 = .ok (.invokevirtual 260, 3) := by decide +kernel
theorem dX9_odds_9 : decode cX9_odds 9 = .ok (.istore 5, 2) := by decide +kernel
theorem dX9_odds_11 : decode cX9_odds 11 = .ok (.iload 5, 2) := by decide +kernel
theorem dX9_odds_13 : decode cX9_odds 13 = .ok (.ifCond .ge 6, 3) := by decide +kernel
theorem dX9_odds_16 : decode cX9_odds 16 = .ok (.iload 5, 2) := by decide +kernel
theorem dX9_odds_18 : decode cX9_odds 18 = .ok (.ireturn, 1) := by decide +kernel
theorem dX9_odds_19 : decode cX9_odds 19 = .ok (.aload_n 0, 1) := by decide +kernel
theorem dX9_odds_20 : decode cX9_odds 20 = .ok (.iload_n 1, 1) := by decide +kernel
theorem dX9_odds_21 : decode cX9_odds 21 = .ok (.iload_n 2, 1) := by decide +kernel
theorem dX9_odds_22 : decode cX9_odds 22 = .ok (.iload_n 3, 1) := by decide +kernel
theorem dX9_odds_23 : decode cX9_odds 23 = .ok (.iload 4, 2) := by decide +kernel
theorem dX9_odds_25 : decode cX9_odds 25 = .ok (.invokevirtual 263, 3) := by decide +kernel
theorem dX9_odds_28 : decode cX9_odds 28 = .ok (.lstore 6, 2) := by decide +kernel
theorem dX9_odds_30 : decode cX9_odds 30 = .ok (.lconst 0, 1) := by decide +kernel
theorem dX9_odds_31 : decode cX9_odds 31 = .ok (.lstore 8, 2) := by decide +kernel
theorem dX9_odds_33 : decode cX9_odds 33 = .ok (.iconst 0, 1) := by decide +kernel
theorem dX9_odds_34 : decode cX9_odds 34 = .ok (.istore 10, 2) := by decide +kernel
theorem dX9_odds_36 : decode cX9_odds 36 = .ok (.iload 10, 2) := by decide +kernel
theorem dX9_odds_38 : decode cX9_odds 38 = .ok (.bipush 20, 2) := by decide +kernel
theorem dX9_odds_40 : decode cX9_odds 40 = .ok (.if_icmp .gt 21, 3) := by decide +kernel
theorem dX9_odds_43 : decode cX9_odds 43 = .ok (.lload 8, 2) := by decide +kernel
theorem dX9_odds_45 : decode cX9_odds 45 = .ok (.aload_n 0, 1) := by decide +kernel
theorem dX9_odds_46 : decode cX9_odds 46 = .ok (.getfield 68, 3) := by decide +kernel
theorem dX9_odds_49 : decode cX9_odds 49 = .ok (.iload 10, 2) := by decide +kernel
theorem dX9_odds_51 : decode cX9_odds 51 = .ok (.laload, 1) := by decide +kernel
theorem dX9_odds_52 : decode cX9_odds 52 = .ok (.ladd, 1) := by decide +kernel
theorem dX9_odds_53 : decode cX9_odds 53 = .ok (.lstore 8, 2) := by decide +kernel
theorem dX9_odds_55 : decode cX9_odds 55 = .ok (.iinc 10 1, 3) := by decide +kernel
theorem dX9_odds_58 : decode cX9_odds 58 = .ok (.goto (-22), 3) := by decide +kernel
theorem dX9_odds_61 : decode cX9_odds 61 = .ok (.aload_n 0, 1) := by decide +kernel
theorem dX9_odds_62 : decode cX9_odds 62 = .ok (.lload 8, 2) := by decide +kernel
theorem dX9_odds_64 : decode cX9_odds 64 = .ok (.lload 6, 2) := by decide +kernel
theorem dX9_odds_66 : decode cX9_odds 66 = .ok (.invokevirtual 267, 3) := by decide +kernel
theorem dX9_odds_69 : decode cX9_odds 69 = .ok (.ireturn, 1) := by decide +kernel
theorem dX9_mid_0 : decode cX9_mid 0 = .ok (.aload_n 0, 1) := by decide +kernel
theorem dX9_mid_1 : decode cX9_mid 1 = .ok (.iload_n 1, 1) := by decide +kernel
theorem dX9_mid_2 : decode cX9_mid 2 = .ok (.iload_n 2, 1) := by decide +kernel
theorem dX9_mid_3 : decode cX9_mid 3 = .ok (.iload_n 3, 1) := by decide +kernel
theorem dX9_mid_4 : decode cX9_mid 4 = .ok (.iload 4, 2) := by decide +kernel
theorem dX9_mid_6 : decode cX9_mid 6 = .ok (.invokevirtual 260, 3) := by decide +kernel
theorem dX9_mid_9 : decode cX9_mid 9 = .ok (.istore 5, 2) := by decide +kernel
theorem dX9_mid_11 : decode cX9_mid 11 = .ok (.iload 5, 2) := by decide +kernel
theorem dX9_mid_13 : decode cX9_mid 13 = .ok (.ifCond .ge 6, 3) := by decide +kernel
theorem dX9_mid_16 : decode cX9_mid 16 = .ok (.iload 5, 2) := by decide +kernel
theorem dX9_mid_18 : decode cX9_mid 18 = .ok (.ireturn, 1) := by decide +kernel
theorem dX9_mid_19 : decode cX9_mid 19 = .ok (.aload_n 0, 1) := by decide +kernel
theorem dX9_mid_20 : decode cX9_mid 20 = .ok (.iload_n 1, 1) := by decide +kernel
theorem dX9_mid_21 : decode cX9_mid 21 = .ok (.iload_n 2, 1) := by decide +kernel
theorem dX9_mid_22 : decode cX9_mid 22 = .ok (.iload_n 3, 1) := by decide +kernel
theorem dX9_mid_23 : decode cX9_mid 23 = .ok (.iload 4, 2) := by decide +kernel
theorem dX9_mid_25 : decode cX9_mid 25 = .ok (.invokevirtual 263, 3) := by decide +kernel
theorem dX9_mid_28 : decode cX9_mid 28 = .ok (.lstore 6, 2) := by decide +kernel
theorem dX9_mid_30 : decode cX9_mid 30 = .ok (.lconst 0, 1) := by decide +kernel
theorem dX9_mid_31 : decode cX9_mid 31 = .ok (.lstore 8, 2) := by decide +kernel
theorem dX9_mid_33 : decode cX9_mid 33 = .ok (.iconst 0, 1) := by decide +kernel
theorem dX9_mid_34 : decode cX9_mid 34 = .ok (.istore 10, 2) := by decide +kernel
theorem dX9_mid_36 : decode cX9_mid 36 = .ok (.iload 10, 2) := by decide +kernel
theorem dX9_mid_38 : decode cX9_mid 38 = .ok (.bipush 20, 2) := by decide +kernel
theorem dX9_mid_40 : decode cX9_mid 40 = .ok (.if_icmp .gt 25, 3) := by decide +kernel
theorem dX9_mid_43 : decode cX9_mid 43 = .ok (.lload 8, 2) := by decide +kernel
theorem dX9_mid_45 : decode cX9_mid 45 = .ok (.iload 10, 2) := by decide +kernel
theorem dX9_mid_47 : decode cX9_mid 47 = .ok (.i2l, 1) := by decide +kernel
theorem dX9_mid_48 : decode cX9_mid 48 = .ok (.aload_n 0, 1) := by decide +kernel
theorem dX9_mid_49 : decode cX9_mid 49 = .ok (.getfield 68, 3) := by decide +kernel
theorem dX9_mid_52 : decode cX9_mid 52 = .ok (.iload 10, 2) := by decide +kernel
theorem dX9_mid_54 : decode cX9_mid 54 = .ok (.laload, 1) := by decide +kernel
theorem dX9_mid_55 : decode cX9_mid 55 = .ok (.lmul, 1) := by decide +kernel
theorem dX9_mid_56 : decode cX9_mid 56 = .ok (.ladd, 1) := by decide +kernel
theorem dX9_mid_57 : decode cX9_mid 57 = .ok (.lstore 8, 2) := by decide +kernel
theorem dX9_mid_59 : decode cX9_mid 59 = .ok (.iinc 10 1, 3) := by decide +kernel
theorem dX9_mid_62 : decode cX9_mid 62 = .ok (.goto (-26), 3) := by decide +kernel
theorem dX9_mid_65 : decode cX9_mid 65 = .ok (.aload_n 0, 1) := by decide +kernel
theorem dX9_mid_66 : decode cX9_mid 66 = .ok (.lload 8, 2) := by decide +kernel
theorem dX9_mid_68 : decode cX9_mid 68 = .ok (.lload 6, 2) := by decide +kernel
theorem dX9_mid_70 : decode cX9_mid 70 = .ok (.invokevirtual 267, 3) := by decide +kernel
theorem dX9_mid_73 : decode cX9_mid 73 = .ok (.ireturn, 1) := by decide +kernel
theorem dX9_lots_0 : decode cX9_lots 0 = .ok (.iload_n 1, 1) := by decide +kernel
theorem dX9_lots_1 : decode cX9_lots 1 = .ok (.i2l, 1) := by decide +kernel
theorem dX9_lots_2 : decode cX9_lots 2 = .ok (.lconst 1, 1) := by decide +kernel
theorem dX9_lots_3 : decode cX9_lots 3 = .ok (.ldc2_w 217, 3) := by decide +kernel
theorem dX9_lots_6 : decode cX9_lots 6 = .ok (.invokestatic 83, 3) := by decide +kernel
theorem dX9_lots_9 : decode cX9_lots 9 = .ok (.ifCond .eq 15, 3) := by decide +kernel
theorem dX9_lots_12 : decode cX9_lots 12 = .ok (.iload_n 2, 1) := by decide +kernel
theorem dX9_lots_13 : decode cX9_lots 13 = .ok (.i2l, 1) := by decide +kernel
theorem dX9_lots_14 : decode cX9_lots 14 = .ok (.lconst 1, 1) := by decide +kernel
theorem dX9_lots_15 : decode cX9_lots 15 = .ok (.ldc2_w 271, 3) := by decide +kernel
theorem dX9_lots_18 : decode cX9_lots 18 = .ok (.invokestatic 83, 3) := by decide +kernel
theorem dX9_lots_21 : decode cX9_lots 21 = .ok (.ifCond .ne 5, 3) := by decide +kernel
theorem dX9_lots_24 : decode cX9_lots 24 = .ok (.iconst (-1), 1) := by decide +kernel
theorem dX9_lots_25 : decode cX9_lots 25 = .ok (.ireturn, 1) := by decide +kernel
theorem dX9_lots_26 : decode cX9_lots 26 = .ok (.aload_n 0, 1) := by decide +kernel
theorem dX9_lots_27 : decode cX9_lots 27 = .ok (.getfield 7, 3) := by decide +kernel
theorem dX9_lots_30 : decode cX9_lots 30 = .ok (.iconst 0, 1) := by decide +kernel
theorem dX9_lots_31 : decode cX9_lots 31 = .ok (.iaload, 1) := by decide +kernel
theorem dX9_lots_32 : decode cX9_lots 32 = .ok (.ifCond .ne 6, 3) := by decide +kernel
theorem dX9_lots_35 : decode cX9_lots 35 = .ok (.bipush (-4), 2) := by decide +kernel
theorem dX9_lots_37 : decode cX9_lots 37 = .ok (.ireturn, 1) := by decide +kernel
theorem dX9_lots_38 : decode cX9_lots 38 = .ok (.aload_n 0, 1) := by decide +kernel
theorem dX9_lots_39 : decode cX9_lots 39 = .ok (.getfield 142, 3) := by decide +kernel
theorem dX9_lots_42 : decode cX9_lots 42 = .ok (.iload_n 1, 1) := by decide +kernel
theorem dX9_lots_43 : decode cX9_lots 43 = .ok (.iadd, 1) := by decide +kernel
theorem dX9_lots_44 : decode cX9_lots 44 = .ok (.bipush 40, 2) := by decide +kernel
theorem dX9_lots_46 : decode cX9_lots 46 = .ok (.if_icmp .le 6, 3) := by decide +kernel
theorem dX9_lots_49 : decode cX9_lots 49 = .ok (.bipush (-2), 2) := by decide +kernel
theorem dX9_lots_51 : decode cX9_lots 51 = .ok (.ireturn, 1) := by decide +kernel
theorem dX9_lots_52 : decode cX9_lots 52 = .ok (.iload_n 2, 1) := by decide +kernel
theorem dX9_lots_53 : decode cX9_lots 53 = .ok (.i2l, 1) := by decide +kernel
theorem dX9_lots_54 : decode cX9_lots 54 = .ok (.lstore_n 3, 1) := by decide +kernel
theorem dX9_lots_55 : decode cX9_lots 55 = .ok (.iconst 0, 1) := by decide +kernel
theorem dX9_lots_56 : decode cX9_lots 56 = .ok (.istore 5, 2) := by decide +kernel
theorem dX9_lots_58 : decode cX9_lots 58 = .ok (.iload 5, 2) := by decide +kernel
theorem dX9_lots_60 : decode cX9_lots 60 = .ok (.iload_n 1, 1) := by decide +kernel
theorem dX9_lots_61 : decode cX9_lots 61 = .ok (.if_icmp .ge 68, 3) := by decide +kernel
theorem dX9_lots_64 : decode cX9_lots 64 = .ok (.aload_n 0, 1) := by decide +kernel
theorem dX9_lots_65 : decode cX9_lots 65 = .ok (.invokevirtual 178, 3) := by decide +kernel
theorem dX9_lots_68 : decode cX9_lots 68 = .ok (.iconst 0, 1) := by decide +kernel
theorem dX9_lots_69 : decode cX9_lots 69 = .ok (.istore 6, 2) := by decide +kernel
theorem dX9_lots_71 : decode cX9_lots 71 = .ok (.iload 6, 2) := by decide +kernel
theorem dX9_lots_73 : decode cX9_lots 73 = .ok (.aload_n 0, 1) := by decide +kernel
theorem dX9_lots_74 : decode cX9_lots 74 = .ok (.getfield 7, 3) := by decide +kernel
theorem dX9_lots_77 : decode cX9_lots 77 = .ok (.iconst 0, 1) := by decide +kernel
theorem dX9_lots_78 : decode cX9_lots 78 = .ok (.iaload, 1) := by decide +kernel
theorem dX9_lots_79 : decode cX9_lots 79 = .ok (.if_icmp .ge 44, 3) := by decide +kernel
theorem dX9_lots_82 : decode cX9_lots 82 = .ok (.aload_n 0, 1) := by decide +kernel
theorem dX9_lots_83 : decode cX9_lots 83 = .ok (.iload 6, 2) := by decide +kernel
theorem dX9_lots_85 : decode cX9_lots 85 = .ok (.invokevirtual 175, 3) := by decide +kernel
theorem dX9_lots_88 : decode cX9_lots 88 = .ok (.ifCond .ne 29, 3) := by decide +kernel
theorem dX9_lots_91 : decode cX9_lots 91 = .ok (.lload_n 3, 1) := by decide +kernel
theorem dX9_lots_92 : decode cX9_lots 92 = .ok (.ldc2_w 273, 3) := by decide +kernel
theorem dX9_lots_95 : decode cX9_lots 95 = .ok (.lmul, 1) := by decide +kernel
theorem dX9_lots_96 : decode cX9_lots 96 = .ok (.ldc2_w 275, 3) := by decide +kernel
theorem dX9_lots_99 : decode cX9_lots 99 = .ok (.lrem, 1) := by decide +kernel
theorem dX9_lots_100 : decode cX9_lots 100 = .ok (.lstore_n 3, 1) := by decide +kernel
theorem dX9_lots_101 : decode cX9_lots 101 = .ok (.aload_n 0, 1) := by decide +kernel
theorem dX9_lots_102 : decode cX9_lots 102 = .ok (.iload 6, 2) := by decide +kernel
theorem dX9_lots_104 : decode cX9_lots 104 = .ok (.lload_n 3, 1) := by decide +kernel
theorem dX9_lots_105 : decode cX9_lots 105 = .ok (.ldc2_w 277, 3) := by decide +kernel
theorem dX9_lots_108 : decode cX9_lots 108 = .ok (.ldiv, 1) := by decide +kernel
theorem dX9_lots_109 : decode cX9_lots 109 = .ok (.ldc2_w 279, 3) := by decide +kernel
theorem dX9_lots_112 : decode cX9_lots 112 = .ok (.lrem, 1) := by decide +kernel
theorem dX9_lots_113 : decode cX9_lots 113 = .ok (.l2i, 1) := by decide +kernel
theorem dX9_lots_114 : decode cX9_lots 114 = .ok (.invokevirtual 181, 3) := by decide +kernel
theorem dX9_lots_117 : decode cX9_lots 117 = .ok (.iinc 6 1, 3) := by decide +kernel
theorem dX9_lots_120 : decode cX9_lots 120 = .ok (.goto (-49), 3) := by decide +kernel
theorem dX9_lots_123 : decode cX9_lots 123 = .ok (.iinc 5 1, 3) := by decide +kernel
theorem dX9_lots_126 : decode cX9_lots 126 = .ok (.goto (-68), 3) := by decide +kernel
theorem dX9_lots_129 : decode cX9_lots 129 = .ok (.aload_n 0, 1) := by decide +kernel
theorem dX9_lots_130 : decode cX9_lots 130 = .ok (.invokevirtual 225, 3) := by decide +kernel
theorem dX9_lots_133 : decode cX9_lots 133 = .ok (.ireturn, 1) := by decide +kernel
theorem dX9_asked_0 : decode cX9_asked 0 = .ok (.aload_n 0, 1) := by decide +kernel
theorem dX9_asked_1 : decode cX9_asked 1 = .ok (.getfield 78, 3) := by decide +kernel
theorem dX9_asked_4 : decode cX9_asked 4 = .ok (.ireturn, 1) := by decide +kernel
theorem dX9_upper_0 : decode cX9_upper 0 = .ok (.aload_n 0, 1) := by decide +kernel
theorem dX9_upper_1 : decode cX9_upper 1 = .ok (.getfield 214, 3) := by decide +kernel
theorem dX9_upper_4 : decode cX9_upper 4 = .ok (.lreturn, 1) := by decide +kernel
theorem dX9_lower_0 : decode cX9_lower 0 = .ok (.aload_n 0, 1) := by decide +kernel
theorem dX9_lower_1 : decode cX9_lower 1 = .ok (.getfield 34, 3) := by decide +kernel
theorem dX9_lower_4 : decode cX9_lower 4 = .ok (.lreturn, 1) := by decide +kernel
theorem dX9_thereOf_0 : decode cX9_thereOf 0 = .ok (.iconst 0, 1) := by decide +kernel
theorem dX9_thereOf_1 : decode cX9_thereOf 1 = .ok (.istore_n 2, 1) := by decide +kernel
theorem dX9_thereOf_2 : decode cX9_thereOf 2 = .ok (.iconst 0, 1) := by decide +kernel
theorem dX9_thereOf_3 : decode cX9_thereOf 3 = .ok (.istore_n 3, 1) := by decide +kernel
theorem dX9_thereOf_4 : decode cX9_thereOf 4 = .ok (.iload_n 3, 1) := by decide +kernel
theorem dX9_thereOf_5 : decode cX9_thereOf 5 = .ok (.iload_n 1, 1) := by decide +kernel
theorem dX9_thereOf_6 : decode cX9_thereOf 6 = .ok (.if_icmp .ge 23, 3) := by decide +kernel
theorem dX9_thereOf_9 : decode cX9_thereOf 9 = .ok (.iload_n 2, 1) := by decide +kernel
theorem dX9_thereOf_10 : decode cX9_thereOf 10 = .ok (.aload_n 0, 1) := by decide +kernel
theorem dX9_thereOf_11 : decode cX9_thereOf 11 = .ok (.iload_n 3, 1) := by decide +kernel
theorem dX9_thereOf_12 : decode cX9_thereOf 12 = .ok (.iaload, 1) := by decide +kernel
theorem dX9_thereOf_13 : decode cX9_thereOf 13 = .ok (.ifCond .ge 7, 3) := by decide +kernel
theorem dX9_thereOf_16 : decode cX9_thereOf 16 = .ok (.iconst 0, 1) := by decide +kernel
theorem dX9_thereOf_17 : decode cX9_thereOf 17 = .ok (.goto 4, 3) := by decide +kernel
theorem dX9_thereOf_20 : decode cX9_thereOf 20 = .ok (.iconst 1, 1) := by decide +kernel
theorem dX9_thereOf_21 : decode cX9_thereOf 21 = .ok (.iadd, 1) := by decide +kernel
theorem dX9_thereOf_22 : decode cX9_thereOf 22 = .ok (.istore_n 2, 1) := by decide +kernel
theorem dX9_thereOf_23 : decode cX9_thereOf 23 = .ok (.iinc 3 1, 3) := by decide +kernel
theorem dX9_thereOf_26 : decode cX9_thereOf 26 = .ok (.goto (-22), 3) := by decide +kernel
theorem dX9_thereOf_29 : decode cX9_thereOf 29 = .ok (.iload_n 2, 1) := by decide +kernel
theorem dX9_thereOf_30 : decode cX9_thereOf 30 = .ok (.ireturn, 1) := by decide +kernel
theorem dX9_heavies_0 : decode cX9_heavies 0 = .ok (.iconst 0, 1) := by decide +kernel
theorem dX9_heavies_1 : decode cX9_heavies 1 = .ok (.istore_n 1, 1) := by decide +kernel
theorem dX9_heavies_2 : decode cX9_heavies 2 = .ok (.iconst 0, 1) := by decide +kernel
theorem dX9_heavies_3 : decode cX9_heavies 3 = .ok (.istore_n 2, 1) := by decide +kernel
theorem dX9_heavies_4 : decode cX9_heavies 4 = .ok (.iload_n 2, 1) := by decide +kernel
theorem dX9_heavies_5 : decode cX9_heavies 5 = .ok (.aload_n 0, 1) := by decide +kernel
theorem dX9_heavies_6 : decode cX9_heavies 6 = .ok (.getfield 7, 3) := by decide +kernel
theorem dX9_heavies_9 : decode cX9_heavies 9 = .ok (.iconst 0, 1) := by decide +kernel
theorem dX9_heavies_10 : decode cX9_heavies 10 = .ok (.iaload, 1) := by decide +kernel
theorem dX9_heavies_11 : decode cX9_heavies 11 = .ok (.if_icmp .ge 31, 3) := by decide +kernel
theorem dX9_heavies_14 : decode cX9_heavies 14 = .ok (.iload_n 1, 1) := by decide +kernel
theorem dX9_heavies_15 : decode cX9_heavies 15 = .ok (.aload_n 0, 1) := by decide +kernel
theorem dX9_heavies_16 : decode cX9_heavies 16 = .ok (.getfield 7, 3) := by decide +kernel
theorem dX9_heavies_19 : decode cX9_heavies 19 = .ok (.iconst 2, 1) := by decide +kernel
theorem dX9_heavies_20 : decode cX9_heavies 20 = .ok (.iload_n 2, 1) := by decide +kernel
theorem dX9_heavies_21 : decode cX9_heavies 21 = .ok (.iadd, 1) := by decide +kernel
theorem dX9_heavies_22 : decode cX9_heavies 22 = .ok (.iaload, 1) := by decide +kernel
theorem dX9_heavies_23 : decode cX9_heavies 23 = .ok (.invokestatic 151, 3) := by decide +kernel
theorem dX9_heavies_26 : decode cX9_heavies 26 = .ok (.ifCond .eq 7, 3) := by decide +kernel
theorem dX9_heavies_29 : decode cX9_heavies 29 = .ok (.iconst 1, 1) := by decide +kernel
theorem dX9_heavies_30 : decode cX9_heavies 30 = .ok (.goto 4, 3) := by decide +kernel
theorem dX9_heavies_33 : decode cX9_heavies 33 = .ok (.iconst 0, 1) := by decide +kernel
theorem dX9_heavies_34 : decode cX9_heavies 34 = .ok (.iadd, 1) := by decide +kernel
theorem dX9_heavies_35 : decode cX9_heavies 35 = .ok (.istore_n 1, 1) := by decide +kernel
theorem dX9_heavies_36 : decode cX9_heavies 36 = .ok (.iinc 2 1, 3) := by decide +kernel
theorem dX9_heavies_39 : decode cX9_heavies 39 = .ok (.goto (-35), 3) := by decide +kernel
theorem dX9_heavies_42 : decode cX9_heavies 42 = .ok (.iload_n 1, 1) := by decide +kernel
theorem dX9_heavies_43 : decode cX9_heavies 43 = .ok (.ireturn, 1) := by decide +kernel
theorem dX9_standing_0 : decode cX9_standing 0 = .ok (.iconst 0, 1) := by decide +kernel
theorem dX9_standing_1 : decode cX9_standing 1 = .ok (.istore_n 1, 1) := by decide +kernel
theorem dX9_standing_2 : decode cX9_standing 2 = .ok (.iconst 0, 1) := by decide +kernel
theorem dX9_standing_3 : decode cX9_standing 3 = .ok (.istore_n 2, 1) := by decide +kernel
theorem dX9_standing_4 : decode cX9_standing 4 = .ok (.iload_n 2, 1) := by decide +kernel
theorem dX9_standing_5 : decode cX9_standing 5 = .ok (.aload_n 0, 1) := by decide +kernel
theorem dX9_standing_6 : decode cX9_standing 6 = .ok (.getfield 7, 3) := by decide +kernel
theorem dX9_standing_9 : decode cX9_standing 9 = .ok (.iconst 0, 1) := by decide +kernel
theorem dX9_standing_10 : decode cX9_standing 10 = .ok (.iaload, 1) := by decide +kernel
theorem dX9_standing_11 : decode cX9_standing 11 = .ok (.if_icmp .ge 31, 3) := by decide +kernel
theorem dX9_standing_14 : decode cX9_standing 14 = .ok (.iload_n 1, 1) := by decide +kernel
theorem dX9_standing_15 : decode cX9_standing 15 = .ok (.aload_n 0, 1) := by decide +kernel
theorem dX9_standing_16 : decode cX9_standing 16 = .ok (.getfield 7, 3) := by decide +kernel
theorem dX9_standing_19 : decode cX9_standing 19 = .ok (.bipush 14, 2) := by decide +kernel
theorem dX9_standing_21 : decode cX9_standing 21 = .ok (.iload_n 2, 1) := by decide +kernel
theorem dX9_standing_22 : decode cX9_standing 22 = .ok (.iadd, 1) := by decide +kernel
theorem dX9_standing_23 : decode cX9_standing 23 = .ok (.iaload, 1) := by decide +kernel
theorem dX9_standing_24 : decode cX9_standing 24 = .ok (.bipush 20, 2) := by decide +kernel
theorem dX9_standing_26 : decode cX9_standing 26 = .ok (.if_icmp .ne 7, 3) := by decide +kernel
theorem dX9_standing_29 : decode cX9_standing 29 = .ok (.iconst 1, 1) := by decide +kernel
theorem dX9_standing_30 : decode cX9_standing 30 = .ok (.goto 4, 3) := by decide +kernel
theorem dX9_standing_33 : decode cX9_standing 33 = .ok (.iconst 0, 1) := by decide +kernel
theorem dX9_standing_34 : decode cX9_standing 34 = .ok (.iadd, 1) := by decide +kernel
theorem dX9_standing_35 : decode cX9_standing 35 = .ok (.istore_n 1, 1) := by decide +kernel
theorem dX9_standing_36 : decode cX9_standing 36 = .ok (.iinc 2 1, 3) := by decide +kernel
theorem dX9_standing_39 : decode cX9_standing 39 = .ok (.goto (-35), 3) := by decide +kernel
theorem dX9_standing_42 : decode cX9_standing 42 = .ok (.iload_n 1, 1) := by decide +kernel
theorem dX9_standing_43 : decode cX9_standing 43 = .ok (.ireturn, 1) := by decide +kernel
theorem dX9_count_0 : decode cX9_count 0 = .ok (.iload_n 1, 1) := by decide +kernel
theorem dX9_count_1 : decode cX9_count 1 = .ok (.tableswitch 120 0 8 #[51, 58, 65, 70, 82, 87, 92, 102, 111], 51) := by decide +kernel
theorem dX9_count_52 : decode cX9_count 52 = .ok (.aload_n 0, 1) := by decide +kernel
theorem dX9_count_53 : decode cX9_count 53 = .ok (.getfield 7, 3) := by decide +kernel
theorem dX9_count_56 : decode cX9_count 56 = .ok (.iconst 0, 1) := by decide +kernel
theorem dX9_count_57 : decode cX9_count 57 = .ok (.iaload, 1) := by decide +kernel
theorem dX9_count_58 : decode cX9_count 58 = .ok (.ireturn, 1) := by decide +kernel
theorem dX9_count_59 : decode cX9_count 59 = .ok (.aload_n 0, 1) := by decide +kernel
theorem dX9_count_60 : decode cX9_count 60 = .ok (.getfield 7, 3) := by decide +kernel
theorem dX9_count_63 : decode cX9_count 63 = .ok (.iconst 1, 1) := by decide +kernel
theorem dX9_count_64 : decode cX9_count 64 = .ok (.iaload, 1) := by decide +kernel
theorem dX9_count_65 : decode cX9_count 65 = .ok (.ireturn, 1) := by decide +kernel
theorem dX9_count_66 : decode cX9_count 66 = .ok (.aload_n 0, 1) := by decide +kernel
theorem dX9_count_67 : decode cX9_count 67 = .ok (.getfield 142, 3) := by decide +kernel
theorem dX9_count_70 : decode cX9_count 70 = .ok (.ireturn, 1) := by decide +kernel
theorem dX9_count_71 : decode cX9_count 71 = .ok (.aload_n 0, 1) := by decide +kernel
theorem dX9_count_72 : decode cX9_count 72 = .ok (.getfield 7, 3) := by decide +kernel
theorem dX9_count_75 : decode cX9_count 75 = .ok (.iconst 0, 1) := by decide +kernel
theorem dX9_count_76 : decode cX9_count 76 = .ok (.iaload, 1) := by decide +kernel
theorem dX9_count_77 : decode cX9_count 77 = .ok (.aload_n 0, 1) := by decide +kernel
theorem dX9_count_78 : decode cX9_count 78 = .ok (.invokevirtual 225, 3) := by decide +kernel
theorem dX9_count_81 : decode cX9_count 81 = .ok (.isub, 1) := by decide +kernel
theorem dX9_count_82 : decode cX9_count 82 = .ok (.ireturn, 1) := by decide +kernel
theorem dX9_count_83 : decode cX9_count 83 = .ok (.aload_n 0, 1) := by decide +kernel
theorem dX9_count_84 : decode cX9_count 84 = .ok (.invokevirtual 281, 3) := by decide +kernel
theorem dX9_count_87 : decode cX9_count 87 = .ok (.ireturn, 1) := by decide +kernel
theorem dX9_count_88 : decode cX9_count 88 = .ok (.aload_n 0, 1) := by decide +kernel
theorem dX9_count_89 : decode cX9_count 89 = .ok (.invokevirtual 284, 3) := by decide +kernel
theorem dX9_count_92 : decode cX9_count 92 = .ok (.ireturn, 1) := by decide +kernel
theorem dX9_count_93 : decode cX9_count 93 = .ok (.aload_n 0, 1) := by decide +kernel
theorem dX9_count_94 : decode cX9_count 94 = .ok (.getfield 19, 3) := by decide +kernel
theorem dX9_count_97 : decode cX9_count 97 = .ok (.bipush 6, 2) := by decide +kernel
theorem dX9_count_99 : decode cX9_count 99 = .ok (.invokestatic 287, 3) := by decide +kernel
theorem dX9_count_102 : decode cX9_count 102 = .ok (.ireturn, 1) := by decide +kernel
theorem dX9_count_103 : decode cX9_count 103 = .ok (.aload_n 0, 1) := by decide +kernel
theorem dX9_count_104 : decode cX9_count 104 = .ok (.getfield 25, 3) := by decide +kernel
theorem dX9_count_107 : decode cX9_count 107 = .ok (.iconst 4, 1) := by decide +kernel
theorem dX9_count_108 : decode cX9_count 108 = .ok (.invokestatic 287, 3) := by decide +kernel
theorem dX9_count_111 : decode cX9_count 111 = .ok (.ireturn, 1) := by decide +kernel
theorem dX9_count_112 : decode cX9_count 112 = .ok (.aload_n 0, 1) := by decide +kernel
theorem dX9_count_113 : decode cX9_count 113 = .ok (.getfield 13, 3) := by decide +kernel
theorem dX9_count_116 : decode cX9_count 116 = .ok (.iconst 3, 1) := by decide +kernel
theorem dX9_count_117 : decode cX9_count 117 = .ok (.invokestatic 287, 3) := by decide +kernel
theorem dX9_count_120 : decode cX9_count 120 = .ok (.ireturn, 1) := by decide +kernel
theorem dX9_count_121 : decode cX9_count 121 = .ok (.iconst (-1), 1) := by decide +kernel
theorem dX9_count_122 : decode cX9_count 122 = .ok (.ireturn, 1) := by decide +kernel
theorem dX9_finding_0 : decode cX9_finding 0 = .ok (.aload_n 0, 1) := by decide +kernel
theorem dX9_finding_1 : decode cX9_finding 1 = .ok (.getfield 74, 3) := by decide +kernel
theorem dX9_finding_4 : decode cX9_finding 4 = .ok (.ireturn, 1) := by decide +kernel
theorem dX9_findings_0 : decode cX9_findings 0 = .ok (.iload_n 1, 1) := by decide +kernel
theorem dX9_findings_1 : decode cX9_findings 1 = .ok (.i2l, 1) := by decide +kernel
theorem dX9_findings_2 : decode cX9_findings 2 = .ok (.lconst 1, 1) := by decide +kernel
theorem dX9_findings_3 : decode cX9_findings 3 = .ok (.ldc2_w 81, 3) := by decide +kernel
theorem dX9_findings_6 : decode cX9_findings 6 = .ok (.invokestatic 83, 3) := by decide +kernel
theorem dX9_findings_9 : decode cX9_findings 9 = .ok (.ifCond .eq 12, 3) := by decide +kernel
theorem dX9_findings_12 : decode cX9_findings 12 = .ok (.aload_n 0, 1) := by decide +kernel
theorem dX9_findings_13 : decode cX9_findings 13 = .ok (.getfield 31, 3) := by decide +kernel
theorem dX9_findings_16 : decode cX9_findings 16 = .ok (.iload_n 1, 1) := by decide +kernel
theorem dX9_findings_17 : decode cX9_findings 17 = .ok (.iaload, 1) := by decide +kernel
theorem dX9_findings_18 : decode cX9_findings 18 = .ok (.goto 4, 3) := by decide +kernel
theorem dX9_findings_21 : decode cX9_findings 21 = .ok (.iconst (-1), 1) := by decide +kernel
theorem dX9_findings_22 : decode cX9_findings 22 = .ok (.ireturn, 1) := by decide +kernel
theorem dX9_mix_0 : decode cX9_mix 0 = .ok (.aload_n 0, 1) := by decide +kernel
theorem dX9_mix_1 : decode cX9_mix 1 = .ok (.ldc2_w 291, 3) := by decide +kernel
theorem dX9_mix_4 : decode cX9_mix 4 = .ok (.aload_n 0, 1) := by decide +kernel
theorem dX9_mix_5 : decode cX9_mix 5 = .ok (.getfield 293, 3) := by decide +kernel
theorem dX9_mix_8 : decode cX9_mix 8 = .ok (.lmul, 1) := by decide +kernel
theorem dX9_mix_9 : decode cX9_mix 9 = .ok (.lload_n 1, 1) := by decide +kernel
theorem dX9_mix_10 : decode cX9_mix 10 = .ok (.ladd, 1) := by decide +kernel
theorem dX9_mix_11 : decode cX9_mix 11 = .ok (.putfield 293, 3) := by decide +kernel
theorem dX9_mix_14 : decode cX9_mix 14 = .ok (.return_, 1) := by decide +kernel
theorem dX9_digest_0 : decode cX9_digest 0 = .ok (.aload_n 0, 1) := by decide +kernel
theorem dX9_digest_1 : decode cX9_digest 1 = .ok (.ldc2_w 296, 3) := by decide +kernel
theorem dX9_digest_4 : decode cX9_digest 4 = .ok (.putfield 293, 3) := by decide +kernel
theorem dX9_digest_7 : decode cX9_digest 7 = .ok (.iconst 0, 1) := by decide +kernel
theorem dX9_digest_8 : decode cX9_digest 8 = .ok (.istore_n 1, 1) := by decide +kernel
theorem dX9_digest_9 : decode cX9_digest 9 = .ok (.iload_n 1, 1) := by decide +kernel
theorem dX9_digest_10 : decode cX9_digest 10 = .ok (.bipush 9, 2) := by decide +kernel
theorem dX9_digest_12 : decode cX9_digest 12 = .ok (.if_icmp .ge 19, 3) := by decide +kernel
theorem dX9_digest_15 : decode cX9_digest 15 = .ok (.aload_n 0, 1) := by decide +kernel
theorem dX9_digest_16 : decode cX9_digest 16 = .ok (.aload_n 0, 1) := by decide +kernel
theorem dX9_digest_17 : decode cX9_digest 17 = .ok (.iload_n 1, 1) := by decide +kernel
theorem dX9_digest_18 : decode cX9_digest 18 = .ok (.invokevirtual 298, 3) := by decide +kernel
theorem dX9_digest_21 : decode cX9_digest 21 = .ok (.i2l, 1) := by decide +kernel
theorem dX9_digest_22 : decode cX9_digest 22 = .ok (.invokevirtual 301, 3) := by decide +kernel
theorem dX9_digest_25 : decode cX9_digest 25 = .ok (.iinc 1 1, 3) := by decide +kernel
theorem dX9_digest_28 : decode cX9_digest 28 = .ok (.goto (-19), 3) := by decide +kernel
theorem dX9_digest_31 : decode cX9_digest 31 = .ok (.iconst 0, 1) := by decide +kernel
theorem dX9_digest_32 : decode cX9_digest 32 = .ok (.istore_n 1, 1) := by decide +kernel
theorem dX9_digest_33 : decode cX9_digest 33 = .ok (.iload_n 1, 1) := by decide +kernel
theorem dX9_digest_34 : decode cX9_digest 34 = .ok (.aload_n 0, 1) := by decide +kernel
theorem dX9_digest_35 : decode cX9_digest 35 = .ok (.getfield 7, 3) := by decide +kernel
theorem dX9_digest_38 : decode cX9_digest 38 = .ok (.iconst 0, 1) := by decide +kernel
theorem dX9_digest_39 : decode cX9_digest 39 = .ok (.iaload, 1) := by decide +kernel
theorem dX9_digest_40 : decode cX9_digest 40 = .ok (.if_icmp .ge 34, 3) := by decide +kernel
theorem dX9_digest_43 : decode cX9_digest 43 = .ok (.iconst 0, 1) := by decide +kernel
theorem dX9_digest_44 : decode cX9_digest 44 = .ok (.istore_n 2, 1) := by decide +kernel
theorem dX9_digest_45 : decode cX9_digest 45 = .ok (.iload_n 2, 1) := by decide +kernel
theorem dX9_digest_46 : decode cX9_digest 46 = .ok (.bipush 6, 2) := by decide +kernel
theorem dX9_digest_48 : decode cX9_digest 48 = .ok (.if_icmp .ge 20, 3) := by decide +kernel
theorem dX9_digest_51 : decode cX9_digest 51 = .ok (.aload_n 0, 1) := by decide +kernel
theorem dX9_digest_52 : decode cX9_digest 52 = .ok (.aload_n 0, 1) := by decide +kernel
theorem dX9_digest_53 : decode cX9_digest 53 = .ok (.iload_n 1, 1) := by decide +kernel
theorem dX9_digest_54 : decode cX9_digest 54 = .ok (.iload_n 2, 1) := by decide +kernel
theorem dX9_digest_55 : decode cX9_digest 55 = .ok (.invokevirtual 148, 3) := by decide +kernel
theorem dX9_digest_58 : decode cX9_digest 58 = .ok (.i2l, 1) := by decide +kernel
theorem dX9_digest_59 : decode cX9_digest 59 = .ok (.invokevirtual 301, 3) := by decide +kernel
theorem dX9_digest_62 : decode cX9_digest 62 = .ok (.iinc 2 1, 3) := by decide +kernel
theorem dX9_digest_65 : decode cX9_digest 65 = .ok (.goto (-20), 3) := by decide +kernel
theorem dX9_digest_68 : decode cX9_digest 68 = .ok (.iinc 1 1, 3) := by decide +kernel
theorem dX9_digest_71 : decode cX9_digest 71 = .ok (.goto (-38), 3) := by decide +kernel
theorem dX9_digest_74 : decode cX9_digest 74 = .ok (.iconst 0, 1) := by decide +kernel
theorem dX9_digest_75 : decode cX9_digest 75 = .ok (.istore_n 1, 1) := by decide +kernel
theorem dX9_digest_76 : decode cX9_digest 76 = .ok (.iload_n 1, 1) := by decide +kernel
theorem dX9_digest_77 : decode cX9_digest 77 = .ok (.iconst 3, 1) := by decide +kernel
theorem dX9_digest_78 : decode cX9_digest 78 = .ok (.if_icmp .ge 20, 3) := by decide +kernel
theorem dX9_digest_81 : decode cX9_digest 81 = .ok (.aload_n 0, 1) := by decide +kernel
theorem dX9_digest_82 : decode cX9_digest 82 = .ok (.aload_n 0, 1) := by decide +kernel
theorem dX9_digest_83 : decode cX9_digest 83 = .ok (.getfield 13, 3) := by decide +kernel
theorem dX9_digest_86 : decode cX9_digest 86 = .ok (.iload_n 1, 1) := by decide +kernel
theorem dX9_digest_87 : decode cX9_digest 87 = .ok (.iaload, 1) := by decide +kernel
theorem dX9_digest_88 : decode cX9_digest 88 = .ok (.i2l, 1) := by decide +kernel
theorem dX9_digest_89 : decode cX9_digest 89 = .ok (.invokevirtual 301, 3) := by decide +kernel
theorem dX9_digest_92 : decode cX9_digest 92 = .ok (.iinc 1 1, 3) := by decide +kernel
theorem dX9_digest_95 : decode cX9_digest 95 = .ok (.goto (-19), 3) := by decide +kernel
theorem dX9_digest_98 : decode cX9_digest 98 = .ok (.iconst 0, 1) := by decide +kernel
theorem dX9_digest_99 : decode cX9_digest 99 = .ok (.istore_n 1, 1) := by decide +kernel
theorem dX9_digest_100 : decode cX9_digest 100 = .ok (.iload_n 1, 1) := by decide +kernel
theorem dX9_digest_101 : decode cX9_digest 101 = .ok (.bipush 6, 2) := by decide +kernel
theorem dX9_digest_103 : decode cX9_digest 103 = .ok (.if_icmp .ge 54, 3) := by decide +kernel
theorem dX9_digest_106 : decode cX9_digest 106 = .ok (.aload_n 0, 1) := by decide +kernel
theorem dX9_digest_107 : decode cX9_digest 107 = .ok (.aload_n 0, 1) := by decide +kernel
theorem dX9_digest_108 : decode cX9_digest 108 = .ok (.getfield 19, 3) := by decide +kernel
theorem dX9_digest_111 : decode cX9_digest 111 = .ok (.iload_n 1, 1) := by decide +kernel
theorem dX9_digest_112 : decode cX9_digest 112 = .ok (.iaload, 1) := by decide +kernel
theorem dX9_digest_113 : decode cX9_digest 113 = .ok (.i2l, 1) := by decide +kernel
theorem dX9_digest_114 : decode cX9_digest 114 = .ok (.invokevirtual 301, 3) := by decide +kernel
theorem dX9_digest_117 : decode cX9_digest 117 = .ok (.iconst 0, 1) := by decide +kernel
theorem dX9_digest_118 : decode cX9_digest 118 = .ok (.istore_n 2, 1) := by decide +kernel
theorem dX9_digest_119 : decode cX9_digest 119 = .ok (.iload_n 2, 1) := by decide +kernel
theorem dX9_digest_120 : decode cX9_digest 120 = .ok (.aload_n 0, 1) := by decide +kernel
theorem dX9_digest_121 : decode cX9_digest 121 = .ok (.getfield 19, 3) := by decide +kernel
theorem dX9_digest_124 : decode cX9_digest 124 = .ok (.iload_n 1, 1) := by decide +kernel
theorem dX9_digest_125 : decode cX9_digest 125 = .ok (.iaload, 1) := by decide +kernel
theorem dX9_digest_126 : decode cX9_digest 126 = .ok (.if_icmp .ge 25, 3) := by decide +kernel
theorem dX9_digest_129 : decode cX9_digest 129 = .ok (.aload_n 0, 1) := by decide +kernel
theorem dX9_digest_130 : decode cX9_digest 130 = .ok (.aload_n 0, 1) := by decide +kernel
theorem dX9_digest_131 : decode cX9_digest 131 = .ok (.getfield 16, 3) := by decide +kernel
theorem dX9_digest_134 : decode cX9_digest 134 = .ok (.bipush 40, 2) := by decide +kernel
theorem dX9_digest_136 : decode cX9_digest 136 = .ok (.iload_n 1, 1) := by decide +kernel
theorem dX9_digest_137 : decode cX9_digest 137 = .ok (.imul, 1) := by decide +kernel
theorem dX9_digest_138 : decode cX9_digest 138 = .ok (.iload_n 2, 1) := by decide +kernel
theorem dX9_digest_139 : decode cX9_digest 139 = .ok (.iadd, 1) := by decide +kernel
theorem dX9_digest_140 : decode cX9_digest 140 = .ok (.iaload, 1) := by decide +kernel
theorem dX9_digest_141 : decode cX9_digest 141 = .ok (.i2l, 1) := by decide +kernel
theorem dX9_digest_142 : decode cX9_digest 142 = .ok (.invokevirtual 301, 3) := by decide +kernel
theorem dX9_digest_145 : decode cX9_digest 145 = .ok (.iinc 2 1, 3) := by decide +kernel
theorem dX9_digest_148 : decode cX9_digest 148 = .ok (.goto (-29), 3) := by decide +kernel
theorem dX9_digest_151 : decode cX9_digest 151 = .ok (.iinc 1 1, 3) := by decide +kernel
theorem dX9_digest_154 : decode cX9_digest 154 = .ok (.goto (-54), 3) := by decide +kernel
theorem dX9_digest_157 : decode cX9_digest 157 = .ok (.iconst 0, 1) := by decide +kernel
theorem dX9_digest_158 : decode cX9_digest 158 = .ok (.istore_n 1, 1) := by decide +kernel
theorem dX9_digest_159 : decode cX9_digest 159 = .ok (.iload_n 1, 1) := by decide +kernel
theorem dX9_digest_160 : decode cX9_digest 160 = .ok (.iconst 4, 1) := by decide +kernel
theorem dX9_digest_161 : decode cX9_digest 161 = .ok (.if_icmp .ge 54, 3) := by decide +kernel
theorem dX9_digest_164 : decode cX9_digest 164 = .ok (.aload_n 0, 1) := by decide +kernel
theorem dX9_digest_165 : decode cX9_digest 165 = .ok (.aload_n 0, 1) := by decide +kernel
theorem dX9_digest_166 : decode cX9_digest 166 = .ok (.getfield 25, 3) := by decide +kernel
theorem dX9_digest_169 : decode cX9_digest 169 = .ok (.iload_n 1, 1) := by decide +kernel
theorem dX9_digest_170 : decode cX9_digest 170 = .ok (.iaload, 1) := by decide +kernel
theorem dX9_digest_171 : decode cX9_digest 171 = .ok (.i2l, 1) := by decide +kernel
theorem dX9_digest_172 : decode cX9_digest 172 = .ok (.invokevirtual 301, 3) := by decide +kernel
theorem dX9_digest_175 : decode cX9_digest 175 = .ok (.iconst 0, 1) := by decide +kernel
theorem dX9_digest_176 : decode cX9_digest 176 = .ok (.istore_n 2, 1) := by decide +kernel
theorem dX9_digest_177 : decode cX9_digest 177 = .ok (.iload_n 2, 1) := by decide +kernel
theorem dX9_digest_178 : decode cX9_digest 178 = .ok (.aload_n 0, 1) := by decide +kernel
theorem dX9_digest_179 : decode cX9_digest 179 = .ok (.getfield 25, 3) := by decide +kernel
theorem dX9_digest_182 : decode cX9_digest 182 = .ok (.iload_n 1, 1) := by decide +kernel
theorem dX9_digest_183 : decode cX9_digest 183 = .ok (.iaload, 1) := by decide +kernel
theorem dX9_digest_184 : decode cX9_digest 184 = .ok (.if_icmp .ge 25, 3) := by decide +kernel
theorem dX9_digest_187 : decode cX9_digest 187 = .ok (.aload_n 0, 1) := by decide +kernel
theorem dX9_digest_188 : decode cX9_digest 188 = .ok (.aload_n 0, 1) := by decide +kernel
theorem dX9_digest_189 : decode cX9_digest 189 = .ok (.getfield 22, 3) := by decide +kernel
theorem dX9_digest_192 : decode cX9_digest 192 = .ok (.bipush 60, 2) := by decide +kernel
theorem dX9_digest_194 : decode cX9_digest 194 = .ok (.iload_n 1, 1) := by decide +kernel
theorem dX9_digest_195 : decode cX9_digest 195 = .ok (.imul, 1) := by decide +kernel
theorem dX9_digest_196 : decode cX9_digest 196 = .ok (.iload_n 2, 1) := by decide +kernel
theorem dX9_digest_197 : decode cX9_digest 197 = .ok (.iadd, 1) := by decide +kernel
theorem dX9_digest_198 : decode cX9_digest 198 = .ok (.iaload, 1) := by decide +kernel
theorem dX9_digest_199 : decode cX9_digest 199 = .ok (.i2l, 1) := by decide +kernel
theorem dX9_digest_200 : decode cX9_digest 200 = .ok (.invokevirtual 301, 3) := by decide +kernel
theorem dX9_digest_203 : decode cX9_digest 203 = .ok (.iinc 2 1, 3) := by decide +kernel
theorem dX9_digest_206 : decode cX9_digest 206 = .ok (.goto (-29), 3) := by decide +kernel
theorem dX9_digest_209 : decode cX9_digest 209 = .ok (.iinc 1 1, 3) := by decide +kernel
theorem dX9_digest_212 : decode cX9_digest 212 = .ok (.goto (-53), 3) := by decide +kernel
theorem dX9_digest_215 : decode cX9_digest 215 = .ok (.aload_n 0, 1) := by decide +kernel
theorem dX9_digest_216 : decode cX9_digest 216 = .ok (.getfield 293, 3) := by decide +kernel
theorem dX9_digest_219 : decode cX9_digest 219 = .ok (.lreturn, 1) := by decide +kernel
theorem dJ6_bitCount_0f7a4_0 : decode cJ6_bitCount_0f7a4 0 = .ok (.iload_n 0, 1) := by decide +kernel
theorem dJ6_bitCount_0f7a4_1 : decode cJ6_bitCount_0f7a4 1 = .ok (.iload_n 0, 1) := by decide +kernel
theorem dJ6_bitCount_0f7a4_2 : decode cJ6_bitCount_0f7a4 2 = .ok (.iconst 1, 1) := by decide +kernel
theorem dJ6_bitCount_0f7a4_3 : decode cJ6_bitCount_0f7a4 3 = .ok (.iushr, 1) := by decide +kernel
theorem dJ6_bitCount_0f7a4_4 : decode cJ6_bitCount_0f7a4 4 = .ok (.ldc_w 265, 3) := by decide +kernel
theorem dJ6_bitCount_0f7a4_7 : decode cJ6_bitCount_0f7a4 7 = .ok (.iand, 1) := by decide +kernel
theorem dJ6_bitCount_0f7a4_8 : decode cJ6_bitCount_0f7a4 8 = .ok (.isub, 1) := by decide +kernel
theorem dJ6_bitCount_0f7a4_9 : decode cJ6_bitCount_0f7a4 9 = .ok (.istore_n 0, 1) := by decide +kernel
theorem dJ6_bitCount_0f7a4_10 : decode cJ6_bitCount_0f7a4 10 = .ok (.iload_n 0, 1) := by decide +kernel
theorem dJ6_bitCount_0f7a4_11 : decode cJ6_bitCount_0f7a4 11 = .ok (.ldc_w 266, 3) := by decide +kernel
theorem dJ6_bitCount_0f7a4_14 : decode cJ6_bitCount_0f7a4 14 = .ok (.iand, 1) := by decide +kernel
theorem dJ6_bitCount_0f7a4_15 : decode cJ6_bitCount_0f7a4 15 = .ok (.iload_n 0, 1) := by decide +kernel
theorem dJ6_bitCount_0f7a4_16 : decode cJ6_bitCount_0f7a4 16 = .ok (.iconst 2, 1) := by decide +kernel
theorem dJ6_bitCount_0f7a4_17 : decode cJ6_bitCount_0f7a4 17 = .ok (.iushr, 1) := by decide +kernel
theorem dJ6_bitCount_0f7a4_18 : decode cJ6_bitCount_0f7a4 18 = .ok (.ldc_w 266, 3) := by decide +kernel
theorem dJ6_bitCount_0f7a4_21 : decode cJ6_bitCount_0f7a4 21 = .ok (.iand, 1) := by decide +kernel
theorem dJ6_bitCount_0f7a4_22 : decode cJ6_bitCount_0f7a4 22 = .ok (.iadd, 1) := by decide +kernel
theorem dJ6_bitCount_0f7a4_23 : decode cJ6_bitCount_0f7a4 23 = .ok (.istore_n 0, 1) := by decide +kernel
theorem dJ6_bitCount_0f7a4_24 : decode cJ6_bitCount_0f7a4 24 = .ok (.iload_n 0, 1) := by decide +kernel
theorem dJ6_bitCount_0f7a4_25 : decode cJ6_bitCount_0f7a4 25 = .ok (.iload_n 0, 1) := by decide +kernel
theorem dJ6_bitCount_0f7a4_26 : decode cJ6_bitCount_0f7a4 26 = .ok (.iconst 4, 1) := by decide +kernel
theorem dJ6_bitCount_0f7a4_27 : decode cJ6_bitCount_0f7a4 27 = .ok (.iushr, 1) := by decide +kernel
theorem dJ6_bitCount_0f7a4_28 : decode cJ6_bitCount_0f7a4 28 = .ok (.iadd, 1) := by decide +kernel
theorem dJ6_bitCount_0f7a4_29 : decode cJ6_bitCount_0f7a4 29 = .ok (.ldc_w 267, 3) := by decide +kernel
theorem dJ6_bitCount_0f7a4_32 : decode cJ6_bitCount_0f7a4 32 = .ok (.iand, 1) := by decide +kernel
theorem dJ6_bitCount_0f7a4_33 : decode cJ6_bitCount_0f7a4 33 = .ok (.istore_n 0, 1) := by decide +kernel
theorem dJ6_bitCount_0f7a4_34 : decode cJ6_bitCount_0f7a4 34 = .ok (.iload_n 0, 1) := by decide +kernel
theorem dJ6_bitCount_0f7a4_35 : decode cJ6_bitCount_0f7a4 35 = .ok (.iload_n 0, 1) := by decide +kernel
theorem dJ6_bitCount_0f7a4_36 : decode cJ6_bitCount_0f7a4 36 = .ok (.bipush 8, 2) := by decide +kernel
theorem dJ6_bitCount_0f7a4_38 : decode cJ6_bitCount_0f7a4 38 = .ok (.iushr, 1) := by decide +kernel
theorem dJ6_bitCount_0f7a4_39 : decode cJ6_bitCount_0f7a4 39 = .ok (.iadd, 1) := by decide +kernel
theorem dJ6_bitCount_0f7a4_40 : decode cJ6_bitCount_0f7a4 40 = .ok (.istore_n 0, 1) := by decide +kernel
theorem dJ6_bitCount_0f7a4_41 : decode cJ6_bitCount_0f7a4 41 = .ok (.iload_n 0, 1) := by decide +kernel
theorem dJ6_bitCount_0f7a4_42 : decode cJ6_bitCount_0f7a4 42 = .ok (.iload_n 0, 1) := by decide +kernel
theorem dJ6_bitCount_0f7a4_43 : decode cJ6_bitCount_0f7a4 43 = .ok (.bipush 16, 2) := by decide +kernel
theorem dJ6_bitCount_0f7a4_45 : decode cJ6_bitCount_0f7a4 45 = .ok (.iushr, 1) := by decide +kernel
theorem dJ6_bitCount_0f7a4_46 : decode cJ6_bitCount_0f7a4 46 = .ok (.iadd, 1) := by decide +kernel
theorem dJ6_bitCount_0f7a4_47 : decode cJ6_bitCount_0f7a4 47 = .ok (.istore_n 0, 1) := by decide +kernel
theorem dJ6_bitCount_0f7a4_48 : decode cJ6_bitCount_0f7a4 48 = .ok (.iload_n 0, 1) := by decide +kernel
theorem dJ6_bitCount_0f7a4_49 : decode cJ6_bitCount_0f7a4 49 = .ok (.bipush 63, 2) := by decide +kernel
theorem dJ6_bitCount_0f7a4_51 : decode cJ6_bitCount_0f7a4 51 = .ok (.iand, 1) := by decide +kernel
theorem dJ6_bitCount_0f7a4_52 : decode cJ6_bitCount_0f7a4 52 = .ok (.ireturn, 1) := by decide +kernel
theorem dJ9_abs_0f7a4_0 : decode cJ9_abs_0f7a4 0 = .ok (.iload_n 0, 1) := by decide +kernel
theorem dJ9_abs_0f7a4_1 : decode cJ9_abs_0f7a4 1 = .ok (.ifCond .ge 8, 3) := by decide +kernel
theorem dJ9_abs_0f7a4_4 : decode cJ9_abs_0f7a4 4 = .ok (.iload_n 0, 1) := by decide +kernel
theorem dJ9_abs_0f7a4_5 : decode cJ9_abs_0f7a4 5 = .ok (.ineg, 1) := by decide +kernel
theorem dJ9_abs_0f7a4_6 : decode cJ9_abs_0f7a4 6 = .ok (.goto 4, 3) := by decide +kernel
theorem dJ9_abs_0f7a4_9 : decode cJ9_abs_0f7a4 9 = .ok (.iload_n 0, 1) := by decide +kernel
theorem dJ9_abs_0f7a4_10 : decode cJ9_abs_0f7a4 10 = .ok (.ireturn, 1) := by decide +kernel
theorem dJ9_max_7cf53_0 : decode cJ9_max_7cf53 0 = .ok (.iload_n 0, 1) := by decide +kernel
theorem dJ9_max_7cf53_1 : decode cJ9_max_7cf53 1 = .ok (.iload_n 1, 1) := by decide +kernel
theorem dJ9_max_7cf53_2 : decode cJ9_max_7cf53 2 = .ok (.if_icmp .lt 7, 3) := by decide +kernel
theorem dJ9_max_7cf53_5 : decode cJ9_max_7cf53 5 = .ok (.iload_n 0, 1) := by decide +kernel
theorem dJ9_max_7cf53_6 : decode cJ9_max_7cf53 6 = .ok (.goto 4, 3) := by decide +kernel
theorem dJ9_max_7cf53_9 : decode cJ9_max_7cf53 9 = .ok (.iload_n 1, 1) := by decide +kernel
theorem dJ9_max_7cf53_10 : decode cJ9_max_7cf53 10 = .ok (.ireturn, 1) := by decide +kernel
theorem dJ9_min_7cf53_0 : decode cJ9_min_7cf53 0 = .ok (.iload_n 0, 1) := by decide +kernel
theorem dJ9_min_7cf53_1 : decode cJ9_min_7cf53 1 = .ok (.iload_n 1, 1) := by decide +kernel
theorem dJ9_min_7cf53_2 : decode cJ9_min_7cf53 2 = .ok (.if_icmp .gt 7, 3) := by decide +kernel
theorem dJ9_min_7cf53_5 : decode cJ9_min_7cf53 5 = .ok (.iload_n 0, 1) := by decide +kernel
theorem dJ9_min_7cf53_6 : decode cJ9_min_7cf53 6 = .ok (.goto 4, 3) := by decide +kernel
theorem dJ9_min_7cf53_9 : decode cJ9_min_7cf53 9 = .ok (.iload_n 1, 1) := by decide +kernel
theorem dJ9_min_7cf53_10 : decode cJ9_min_7cf53 10 = .ok (.ireturn, 1) := by decide +kernel
theorem dJ7_rangeCheck_23922_0 : decode cJ7_rangeCheck_23922 0 = .ok (.iload_n 1, 1) := by decide +kernel
theorem dJ7_rangeCheck_23922_1 : decode cJ7_rangeCheck_23922 1 = .ok (.iload_n 2, 1) := by decide +kernel
theorem dJ7_rangeCheck_23922_2 : decode cJ7_rangeCheck_23922 2 = .ok (.if_icmp .le 44, 3) := by decide +kernel
theorem dJ7_rangeCheck_23922_5 : decode cJ7_rangeCheck_23922 5 = .ok (.new 43, 3) := by decide +kernel
theorem dJ7_rangeCheck_23922_8 : decode cJ7_rangeCheck_23922 8 = .ok (.dup, 1) := by decide +kernel
theorem dJ7_rangeCheck_23922_9 : decode cJ7_rangeCheck_23922 9 = .ok (.new 45, 3) := by decide +kernel
theorem dJ7_rangeCheck_23922_12 : decode cJ7_rangeCheck_23922 12 = .ok (.dup, 1) := by decide +kernel
theorem dJ7_rangeCheck_23922_13 : decode cJ7_rangeCheck_23922 13 = .ok (.invokespecial 47, 3) := by decide +kernel
theorem dJ7_rangeCheck_23922_16 : decode cJ7_rangeCheck_23922 16 = .ok (.ldc 48, 2) := by decide +kernel
theorem dJ7_rangeCheck_23922_18 : decode cJ7_rangeCheck_23922 18 = .ok (.invokevirtual 50, 3) := by decide +kernel
theorem dJ7_rangeCheck_23922_21 : decode cJ7_rangeCheck_23922 21 = .ok (.iload_n 1, 1) := by decide +kernel
theorem dJ7_rangeCheck_23922_22 : decode cJ7_rangeCheck_23922 22 = .ok (.invokevirtual 54, 3) := by decide +kernel
theorem dJ7_rangeCheck_23922_25 : decode cJ7_rangeCheck_23922 25 = .ok (.ldc 57, 2) := by decide +kernel
theorem dJ7_rangeCheck_23922_27 : decode cJ7_rangeCheck_23922 27 = .ok (.invokevirtual 50, 3) := by decide +kernel
theorem dJ7_rangeCheck_23922_30 : decode cJ7_rangeCheck_23922 30 = .ok (.iload_n 2, 1) := by decide +kernel
theorem dJ7_rangeCheck_23922_31 : decode cJ7_rangeCheck_23922 31 = .ok (.invokevirtual 54, 3) := by decide +kernel
theorem dJ7_rangeCheck_23922_34 : decode cJ7_rangeCheck_23922 34 = .ok (.ldc 59, 2) := by decide +kernel
theorem dJ7_rangeCheck_23922_36 : decode cJ7_rangeCheck_23922 36 = .ok (.invokevirtual 50, 3) := by decide +kernel
theorem dJ7_rangeCheck_23922_39 : decode cJ7_rangeCheck_23922 39 = .ok (.invokevirtual 61, 3) := by decide +kernel
theorem dJ7_rangeCheck_23922_42 : decode cJ7_rangeCheck_23922 42 = .ok (.invokespecial 65, 3) := by decide +kernel
theorem dJ7_rangeCheck_23922_45 : decode cJ7_rangeCheck_23922 45 = .ok (.athrow, 1) := by decide +kernel
theorem dJ7_rangeCheck_23922_46 : decode cJ7_rangeCheck_23922 46 = .ok (.iload_n 1, 1) := by decide +kernel
theorem dJ7_rangeCheck_23922_47 : decode cJ7_rangeCheck_23922 47 = .ok (.ifCond .ge 12, 3) := by decide +kernel
theorem dJ7_rangeCheck_23922_50 : decode cJ7_rangeCheck_23922 50 = .ok (.new 68, 3) := by decide +kernel
theorem dJ7_rangeCheck_23922_53 : decode cJ7_rangeCheck_23922 53 = .ok (.dup, 1) := by decide +kernel
theorem dJ7_rangeCheck_23922_54 : decode cJ7_rangeCheck_23922 54 = .ok (.iload_n 1, 1) := by decide +kernel
theorem dJ7_rangeCheck_23922_55 : decode cJ7_rangeCheck_23922 55 = .ok (.invokespecial 70, 3) := by decide +kernel
theorem dJ7_rangeCheck_23922_58 : decode cJ7_rangeCheck_23922 58 = .ok (.athrow, 1) := by decide +kernel
theorem dJ7_rangeCheck_23922_59 : decode cJ7_rangeCheck_23922 59 = .ok (.iload_n 2, 1) := by decide +kernel
theorem dJ7_rangeCheck_23922_60 : decode cJ7_rangeCheck_23922 60 = .ok (.iload_n 0, 1) := by decide +kernel
theorem dJ7_rangeCheck_23922_61 : decode cJ7_rangeCheck_23922 61 = .ok (.if_icmp .le 12, 3) := by decide +kernel
theorem dJ7_rangeCheck_23922_64 : decode cJ7_rangeCheck_23922 64 = .ok (.new 68, 3) := by decide +kernel
theorem dJ7_rangeCheck_23922_67 : decode cJ7_rangeCheck_23922 67 = .ok (.dup, 1) := by decide +kernel
theorem dJ7_rangeCheck_23922_68 : decode cJ7_rangeCheck_23922 68 = .ok (.iload_n 2, 1) := by decide +kernel
theorem dJ7_rangeCheck_23922_69 : decode cJ7_rangeCheck_23922 69 = .ok (.invokespecial 70, 3) := by decide +kernel
theorem dJ7_rangeCheck_23922_72 : decode cJ7_rangeCheck_23922 72 = .ok (.athrow, 1) := by decide +kernel
theorem dJ7_rangeCheck_23922_73 : decode cJ7_rangeCheck_23922 73 = .ok (.return_, 1) := by decide +kernel
theorem dJ7_fill_d0a16_0 : decode cJ7_fill_d0a16 0 = .ok (.iconst 0, 1) := by decide +kernel
theorem dJ7_fill_d0a16_1 : decode cJ7_fill_d0a16 1 = .ok (.istore_n 3, 1) := by decide +kernel
theorem dJ7_fill_d0a16_2 : decode cJ7_fill_d0a16 2 = .ok (.aload_n 0, 1) := by decide +kernel
theorem dJ7_fill_d0a16_3 : decode cJ7_fill_d0a16 3 = .ok (.arraylength, 1) := by decide +kernel
theorem dJ7_fill_d0a16_4 : decode cJ7_fill_d0a16 4 = .ok (.istore 4, 2) := by decide +kernel
theorem dJ7_fill_d0a16_6 : decode cJ7_fill_d0a16 6 = .ok (.iload_n 3, 1) := by decide +kernel
theorem dJ7_fill_d0a16_7 : decode cJ7_fill_d0a16 7 = .ok (.iload 4, 2) := by decide +kernel
theorem dJ7_fill_d0a16_9 : decode cJ7_fill_d0a16 9 = .ok (.if_icmp .ge 13, 3) := by decide +kernel
theorem dJ7_fill_d0a16_12 : decode cJ7_fill_d0a16 12 = .ok (.aload_n 0, 1) := by decide +kernel
theorem dJ7_fill_d0a16_13 : decode cJ7_fill_d0a16 13 = .ok (.iload_n 3, 1) := by decide +kernel
theorem dJ7_fill_d0a16_14 : decode cJ7_fill_d0a16 14 = .ok (.lload_n 1, 1) := by decide +kernel
theorem dJ7_fill_d0a16_15 : decode cJ7_fill_d0a16 15 = .ok (.lastore, 1) := by decide +kernel
theorem dJ7_fill_d0a16_16 : decode cJ7_fill_d0a16 16 = .ok (.iinc 3 1, 3) := by decide +kernel
theorem dJ7_fill_d0a16_19 : decode cJ7_fill_d0a16 19 = .ok (.goto (-13), 3) := by decide +kernel
theorem dJ7_fill_d0a16_22 : decode cJ7_fill_d0a16 22 = .ok (.return_, 1) := by decide +kernel
theorem dJ7_fill_fda19_0 : decode cJ7_fill_fda19 0 = .ok (.aload_n 0, 1) := by decide +kernel
theorem dJ7_fill_fda19_1 : decode cJ7_fill_fda19 1 = .ok (.arraylength, 1) := by decide +kernel
theorem dJ7_fill_fda19_2 : decode cJ7_fill_fda19 2 = .ok (.iload_n 1, 1) := by decide +kernel
theorem dJ7_fill_fda19_3 : decode cJ7_fill_fda19 3 = .ok (.iload_n 2, 1) := by decide +kernel
theorem dJ7_fill_fda19_4 : decode cJ7_fill_fda19 4 = .ok (.invokestatic 13, 3) := by decide +kernel
theorem dJ7_fill_fda19_7 : decode cJ7_fill_fda19 7 = .ok (.iload_n 1, 1) := by decide +kernel
theorem dJ7_fill_fda19_8 : decode cJ7_fill_fda19 8 = .ok (.istore 4, 2) := by decide +kernel
theorem dJ7_fill_fda19_10 : decode cJ7_fill_fda19 10 = .ok (.iload 4, 2) := by decide +kernel
theorem dJ7_fill_fda19_12 : decode cJ7_fill_fda19 12 = .ok (.iload_n 2, 1) := by decide +kernel
theorem dJ7_fill_fda19_13 : decode cJ7_fill_fda19 13 = .ok (.if_icmp .ge 14, 3) := by decide +kernel
theorem dJ7_fill_fda19_16 : decode cJ7_fill_fda19 16 = .ok (.aload_n 0, 1) := by decide +kernel
theorem dJ7_fill_fda19_17 : decode cJ7_fill_fda19 17 = .ok (.iload 4, 2) := by decide +kernel
theorem dJ7_fill_fda19_19 : decode cJ7_fill_fda19 19 = .ok (.iload_n 3, 1) := by decide +kernel
theorem dJ7_fill_fda19_20 : decode cJ7_fill_fda19 20 = .ok (.iastore, 1) := by decide +kernel
theorem dJ7_fill_fda19_21 : decode cJ7_fill_fda19 21 = .ok (.iinc 4 1, 3) := by decide +kernel
theorem dJ7_fill_fda19_24 : decode cJ7_fill_fda19 24 = .ok (.goto (-14), 3) := by decide +kernel
theorem dJ7_fill_fda19_27 : decode cJ7_fill_fda19 27 = .ok (.return_, 1) := by decide +kernel
theorem dL_law_0 : decode cL_law 0 = .ok (.new 7, 3) := by decide +kernel
theorem dL_law_3 : decode cL_law 3 = .ok (.dup, 1) := by decide +kernel
theorem dL_law_4 : decode cL_law 4 = .ok (.invokespecial 9, 3) := by decide +kernel
theorem dL_law_7 : decode cL_law 7 = .ok (.astore_n 1, 1) := by decide +kernel
theorem dL_law_8 : decode cL_law 8 = .ok (.new 10, 3) := by decide +kernel
theorem dL_law_11 : decode cL_law 11 = .ok (.dup, 1) := by decide +kernel
theorem dL_law_12 : decode cL_law 12 = .ok (.invokespecial 12, 3) := by decide +kernel
theorem dL_law_15 : decode cL_law 15 = .ok (.astore_n 2, 1) := by decide +kernel
theorem dL_law_16 : decode cL_law 16 = .ok (.iconst 0, 1) := by decide +kernel
theorem dL_law_17 : decode cL_law 17 = .ok (.istore_n 3, 1) := by decide +kernel
theorem dL_law_18 : decode cL_law 18 = .ok (.iload_n 3, 1) := by decide +kernel
theorem dL_law_19 : decode cL_law 19 = .ok (.aload_n 0, 1) := by decide +kernel
theorem dL_law_20 : decode cL_law 20 = .ok (.arraylength, 1) := by decide +kernel
theorem dL_law_21 : decode cL_law 21 = .ok (.bipush 6, 2) := by decide +kernel
theorem dL_law_23 : decode cL_law 23 = .ok (.isub, 1) := by decide +kernel
theorem dL_law_24 : decode cL_law 24 = .ok (.if_icmp .gt 1656, 3) := by decide +kernel
theorem dL_law_27 : decode cL_law 27 = .ok (.aload_n 0, 1) := by decide +kernel
theorem dL_law_28 : decode cL_law 28 = .ok (.iload_n 3, 1) := by decide +kernel
theorem dL_law_29 : decode cL_law 29 = .ok (.iaload, 1) := by decide +kernel
theorem dL_law_30 : decode cL_law 30 = .ok (.bipush 63, 2) := by decide +kernel
theorem dL_law_32 : decode cL_law 32 = .ok (.iand, 1) := by decide +kernel
theorem dL_law_33 : decode cL_law 33 = .ok (.tableswitch 1641 0 48 #[211, 244, 287, 320, 343, 406, 429, 462, 505, 528, 551, 584, 617, 640, 673, 696, 719, 742, 765, 788, 821, 844, 877, 910, 963, 996, 1019, 1042, 1065, 1098, 1121, 1154, 1167, 1190, 1223, 1256, 1289, 1322, 1355, 1388, 1441, 1494, 1527, 1540, 1554, 1568, 1591, 1604, 1627], 211) := by decide +kernel
theorem dL_law_244 : decode cL_law 244 = .ok (.aload_n 1, 1) := by decide +kernel
theorem dL_law_245 : decode cL_law 245 = .ok (.aload_n 0, 1) := by decide +kernel
theorem dL_law_246 : decode cL_law 246 = .ok (.iload_n 3, 1) := by decide +kernel
theorem dL_law_247 : decode cL_law 247 = .ok (.iconst 1, 1) := by decide +kernel
theorem dL_law_248 : decode cL_law 248 = .ok (.iadd, 1) := by decide +kernel
theorem dL_law_249 : decode cL_law 249 = .ok (.iaload, 1) := by decide +kernel
theorem dL_law_250 : decode cL_law 250 = .ok (.aload_n 0, 1) := by decide +kernel
theorem dL_law_251 : decode cL_law 251 = .ok (.iload_n 3, 1) := by decide +kernel
theorem dL_law_252 : decode cL_law 252 = .ok (.iconst 2, 1) := by decide +kernel
theorem dL_law_253 : decode cL_law 253 = .ok (.iadd, 1) := by decide +kernel
theorem dL_law_254 : decode cL_law 254 = .ok (.iaload, 1) := by decide +kernel
theorem dL_law_255 : decode cL_law 255 = .ok (.invokevirtual 13, 3) := by decide +kernel
theorem dL_law_258 : decode cL_law 258 = .ok (.aload_n 2, 1) := by decide +kernel
theorem dL_law_259 : decode cL_law 259 = .ok (.aload_n 0, 1) := by decide +kernel
theorem dL_law_260 : decode cL_law 260 = .ok (.iload_n 3, 1) := by decide +kernel
theorem dL_law_261 : decode cL_law 261 = .ok (.iconst 1, 1) := by decide +kernel
theorem dL_law_262 : decode cL_law 262 = .ok (.iadd, 1) := by decide +kernel
theorem dL_law_263 : decode cL_law 263 = .ok (.iaload, 1) := by decide +kernel
theorem dL_law_264 : decode cL_law 264 = .ok (.aload_n 0, 1) := by decide +kernel
theorem dL_law_265 : decode cL_law 265 = .ok (.iload_n 3, 1) := by decide +kernel
theorem dL_law_266 : decode cL_law 266 = .ok (.iconst 2, 1) := by decide +kernel
theorem dL_law_267 : decode cL_law 267 = .ok (.iadd, 1) := by decide +kernel
theorem dL_law_268 : decode cL_law 268 = .ok (.iaload, 1) := by decide +kernel
theorem dL_law_269 : decode cL_law 269 = .ok (.invokevirtual 17, 3) := by decide +kernel
theorem dL_law_272 : decode cL_law 272 = .ok (.if_icmp .eq 1402, 3) := by decide +kernel
theorem dL_law_275 : decode cL_law 275 = .ok (.iconst 0, 1) := by decide +kernel
theorem dL_law_276 : decode cL_law 276 = .ok (.ireturn, 1) := by decide +kernel
theorem dL_law_277 : decode cL_law 277 = .ok (.aload_n 1, 1) := by decide +kernel
theorem dL_law_278 : decode cL_law 278 = .ok (.aload_n 0, 1) := by decide +kernel
theorem dL_law_279 : decode cL_law 279 = .ok (.iload_n 3, 1) := by decide +kernel
theorem dL_law_280 : decode cL_law 280 = .ok (.iconst 1, 1) := by decide +kernel
theorem dL_law_281 : decode cL_law 281 = .ok (.iadd, 1) := by decide +kernel
theorem dL_law_282 : decode cL_law 282 = .ok (.iaload, 1) := by decide +kernel
theorem dL_law_283 : decode cL_law 283 = .ok (.aload_n 0, 1) := by decide +kernel
theorem dL_law_284 : decode cL_law 284 = .ok (.iload_n 3, 1) := by decide +kernel
theorem dL_law_285 : decode cL_law 285 = .ok (.iconst 2, 1) := by decide +kernel
theorem dL_law_286 : decode cL_law 286 = .ok (.iadd, 1) := by decide +kernel
theorem dL_law_287 : decode cL_law 287 = .ok (.iaload, 1) := by decide +kernel
theorem dL_law_288 : decode cL_law 288 = .ok (.aload_n 0, 1) := by decide +kernel
theorem dL_law_289 : decode cL_law 289 = .ok (.iload_n 3, 1) := by decide +kernel
theorem dL_law_290 : decode cL_law 290 = .ok (.iconst 3, 1) := by decide +kernel
theorem dL_law_291 : decode cL_law 291 = .ok (.iadd, 1) := by decide +kernel
theorem dL_law_292 : decode cL_law 292 = .ok (.iaload, 1) := by decide +kernel
theorem dL_law_293 : decode cL_law 293 = .ok (.invokevirtual 18, 3) := by decide +kernel
theorem dL_law_296 : decode cL_law 296 = .ok (.aload_n 2, 1) := by decide +kernel
theorem dL_law_297 : decode cL_law 297 = .ok (.aload_n 0, 1) := by decide +kernel
theorem dL_law_298 : decode cL_law 298 = .ok (.iload_n 3, 1) := by decide +kernel
theorem dL_law_299 : decode cL_law 299 = .ok (.iconst 1, 1) := by decide +kernel
theorem dL_law_300 : decode cL_law 300 = .ok (.iadd, 1) := by decide +kernel
theorem dL_law_301 : decode cL_law 301 = .ok (.iaload, 1) := by decide +kernel
theorem dL_law_302 : decode cL_law 302 = .ok (.aload_n 0, 1) := by decide +kernel
theorem dL_law_303 : decode cL_law 303 = .ok (.iload_n 3, 1) := by decide +kernel
theorem dL_law_304 : decode cL_law 304 = .ok (.iconst 2, 1) := by decide +kernel
theorem dL_law_305 : decode cL_law 305 = .ok (.iadd, 1) := by decide +kernel
theorem dL_law_306 : decode cL_law 306 = .ok (.iaload, 1) := by decide +kernel
theorem dL_law_307 : decode cL_law 307 = .ok (.aload_n 0, 1) := by decide +kernel
theorem dL_law_308 : decode cL_law 308 = .ok (.iload_n 3, 1) := by decide +kernel
theorem dL_law_309 : decode cL_law 309 = .ok (.iconst 3, 1) := by decide +kernel
theorem dL_law_310 : decode cL_law 310 = .ok (.iadd, 1) := by decide +kernel
theorem dL_law_311 : decode cL_law 311 = .ok (.iaload, 1) := by decide +kernel
theorem dL_law_312 : decode cL_law 312 = .ok (.invokevirtual 22, 3) := by decide +kernel
theorem dL_law_315 : decode cL_law 315 = .ok (.if_icmp .eq 1359, 3) := by decide +kernel
theorem dL_law_318 : decode cL_law 318 = .ok (.iconst 0, 1) := by decide +kernel
theorem dL_law_319 : decode cL_law 319 = .ok (.ireturn, 1) := by decide +kernel
theorem dL_law_320 : decode cL_law 320 = .ok (.aload_n 1, 1) := by decide +kernel
theorem dL_law_321 : decode cL_law 321 = .ok (.aload_n 0, 1) := by decide +kernel
theorem dL_law_322 : decode cL_law 322 = .ok (.iload_n 3, 1) := by decide +kernel
theorem dL_law_323 : decode cL_law 323 = .ok (.iconst 1, 1) := by decide +kernel
theorem dL_law_324 : decode cL_law 324 = .ok (.iadd, 1) := by decide +kernel
theorem dL_law_325 : decode cL_law 325 = .ok (.iaload, 1) := by decide +kernel
theorem dL_law_326 : decode cL_law 326 = .ok (.aload_n 0, 1) := by decide +kernel
theorem dL_law_327 : decode cL_law 327 = .ok (.iload_n 3, 1) := by decide +kernel
theorem dL_law_328 : decode cL_law 328 = .ok (.iconst 2, 1) := by decide +kernel
theorem dL_law_329 : decode cL_law 329 = .ok (.iadd, 1) := by decide +kernel
theorem dL_law_330 : decode cL_law 330 = .ok (.iaload, 1) := by decide +kernel
theorem dL_law_331 : decode cL_law 331 = .ok (.invokevirtual 23, 3) := by decide +kernel
theorem dL_law_334 : decode cL_law 334 = .ok (.aload_n 2, 1) := by decide +kernel
theorem dL_law_335 : decode cL_law 335 = .ok (.aload_n 0, 1) := by decide +kernel
theorem dL_law_336 : decode cL_law 336 = .ok (.iload_n 3, 1) := by decide +kernel
theorem dL_law_337 : decode cL_law 337 = .ok (.iconst 1, 1) := by decide +kernel
theorem dL_law_338 : decode cL_law 338 = .ok (.iadd, 1) := by decide +kernel
theorem dL_law_339 : decode cL_law 339 = .ok (.iaload, 1) := by decide +kernel
theorem dL_law_340 : decode cL_law 340 = .ok (.aload_n 0, 1) := by decide +kernel
theorem dL_law_341 : decode cL_law 341 = .ok (.iload_n 3, 1) := by decide +kernel
theorem dL_law_342 : decode cL_law 342 = .ok (.iconst 2, 1) := by decide +kernel
theorem dL_law_343 : decode cL_law 343 = .ok (.iadd, 1) := by decide +kernel
theorem dL_law_344 : decode cL_law 344 = .ok (.iaload, 1) := by decide +kernel
theorem dL_law_345 : decode cL_law 345 = .ok (.invokevirtual 26, 3) := by decide +kernel
theorem dL_law_348 : decode cL_law 348 = .ok (.if_icmp .eq 1326, 3) := by decide +kernel
theorem dL_law_351 : decode cL_law 351 = .ok (.iconst 0, 1) := by decide +kernel
theorem dL_law_352 : decode cL_law 352 = .ok (.ireturn, 1) := by decide +kernel
theorem dL_law_353 : decode cL_law 353 = .ok (.aload_n 1, 1) := by decide +kernel
theorem dL_law_354 : decode cL_law 354 = .ok (.aload_n 0, 1) := by decide +kernel
theorem dL_law_355 : decode cL_law 355 = .ok (.iload_n 3, 1) := by decide +kernel
theorem dL_law_356 : decode cL_law 356 = .ok (.iconst 1, 1) := by decide +kernel
theorem dL_law_357 : decode cL_law 357 = .ok (.iadd, 1) := by decide +kernel
theorem dL_law_358 : decode cL_law 358 = .ok (.iaload, 1) := by decide +kernel
theorem dL_law_359 : decode cL_law 359 = .ok (.invokevirtual 27, 3) := by decide +kernel
theorem dL_law_362 : decode cL_law 362 = .ok (.aload_n 2, 1) := by decide +kernel
theorem dL_law_363 : decode cL_law 363 = .ok (.aload_n 0, 1) := by decide +kernel
theorem dL_law_364 : decode cL_law 364 = .ok (.iload_n 3, 1) := by decide +kernel
theorem dL_law_365 : decode cL_law 365 = .ok (.iconst 1, 1) := by decide +kernel
theorem dL_law_366 : decode cL_law 366 = .ok (.iadd, 1) := by decide +kernel
theorem dL_law_367 : decode cL_law 367 = .ok (.iaload, 1) := by decide +kernel
theorem dL_law_368 : decode cL_law 368 = .ok (.invokevirtual 31, 3) := by decide +kernel
theorem dL_law_371 : decode cL_law 371 = .ok (.if_icmp .eq 1303, 3) := by decide +kernel
theorem dL_law_374 : decode cL_law 374 = .ok (.iconst 0, 1) := by decide +kernel
theorem dL_law_375 : decode cL_law 375 = .ok (.ireturn, 1) := by decide +kernel
theorem dL_law_376 : decode cL_law 376 = .ok (.aload_n 1, 1) := by decide +kernel
theorem dL_law_377 : decode cL_law 377 = .ok (.aload_n 0, 1) := by decide +kernel
theorem dL_law_378 : decode cL_law 378 = .ok (.iload_n 3, 1) := by decide +kernel
theorem dL_law_379 : decode cL_law 379 = .ok (.iconst 1, 1) := by decide +kernel
theorem dL_law_380 : decode cL_law 380 = .ok (.iadd, 1) := by decide +kernel
theorem dL_law_381 : decode cL_law 381 = .ok (.iaload, 1) := by decide +kernel
theorem dL_law_382 : decode cL_law 382 = .ok (.aload_n 0, 1) := by decide +kernel
theorem dL_law_383 : decode cL_law 383 = .ok (.iload_n 3, 1) := by decide +kernel
theorem dL_law_384 : decode cL_law 384 = .ok (.iconst 2, 1) := by decide +kernel
theorem dL_law_385 : decode cL_law 385 = .ok (.iadd, 1) := by decide +kernel
theorem dL_law_386 : decode cL_law 386 = .ok (.iaload, 1) := by decide +kernel
theorem dL_law_387 : decode cL_law 387 = .ok (.aload_n 0, 1) := by decide +kernel
theorem dL_law_388 : decode cL_law 388 = .ok (.iload_n 3, 1) := by decide +kernel
theorem dL_law_389 : decode cL_law 389 = .ok (.iconst 3, 1) := by decide +kernel
theorem dL_law_390 : decode cL_law 390 = .ok (.iadd, 1) := by decide +kernel
theorem dL_law_391 : decode cL_law 391 = .ok (.iaload, 1) := by decide +kernel
theorem dL_law_392 : decode cL_law 392 = .ok (.aload_n 0, 1) := by decide +kernel
theorem dL_law_393 : decode cL_law 393 = .ok (.iload_n 3, 1) := by decide +kernel
theorem dL_law_394 : decode cL_law 394 = .ok (.iconst 4, 1) := by decide +kernel
theorem dL_law_395 : decode cL_law 395 = .ok (.iadd, 1) := by decide +kernel
theorem dL_law_396 : decode cL_law 396 = .ok (.iaload, 1) := by decide +kernel
theorem dL_law_397 : decode cL_law 397 = .ok (.aload_n 0, 1) := by decide +kernel
theorem dL_law_398 : decode cL_law 398 = .ok (.iload_n 3, 1) := by decide +kernel
theorem dL_law_399 : decode cL_law 399 = .ok (.iconst 5, 1) := by decide +kernel
theorem dL_law_400 : decode cL_law 400 = .ok (.iadd, 1) := by decide +kernel
theorem dL_law_401 : decode cL_law 401 = .ok (.iaload, 1) := by decide +kernel
theorem dL_law_402 : decode cL_law 402 = .ok (.invokevirtual 32, 3) := by decide +kernel
theorem dL_law_405 : decode cL_law 405 = .ok (.aload_n 2, 1) := by decide +kernel
theorem dL_law_406 : decode cL_law 406 = .ok (.aload_n 0, 1) := by decide +kernel
theorem dL_law_407 : decode cL_law 407 = .ok (.iload_n 3, 1) := by decide +kernel
theorem dL_law_408 : decode cL_law 408 = .ok (.iconst 1, 1) := by decide +kernel
theorem dL_law_409 : decode cL_law 409 = .ok (.iadd, 1) := by decide +kernel
theorem dL_law_410 : decode cL_law 410 = .ok (.iaload, 1) := by decide +kernel
theorem dL_law_411 : decode cL_law 411 = .ok (.aload_n 0, 1) := by decide +kernel
theorem dL_law_412 : decode cL_law 412 = .ok (.iload_n 3, 1) := by decide +kernel
theorem dL_law_413 : decode cL_law 413 = .ok (.iconst 2, 1) := by decide +kernel
theorem dL_law_414 : decode cL_law 414 = .ok (.iadd, 1) := by decide +kernel
theorem dL_law_415 : decode cL_law 415 = .ok (.iaload, 1) := by decide +kernel
theorem dL_law_416 : decode cL_law 416 = .ok (.aload_n 0, 1) := by decide +kernel
theorem dL_law_417 : decode cL_law 417 = .ok (.iload_n 3, 1) := by decide +kernel
theorem dL_law_418 : decode cL_law 418 = .ok (.iconst 3, 1) := by decide +kernel
theorem dL_law_419 : decode cL_law 419 = .ok (.iadd, 1) := by decide +kernel
theorem dL_law_420 : decode cL_law 420 = .ok (.iaload, 1) := by decide +kernel
theorem dL_law_421 : decode cL_law 421 = .ok (.aload_n 0, 1) := by decide +kernel
theorem dL_law_422 : decode cL_law 422 = .ok (.iload_n 3, 1) := by decide +kernel
theorem dL_law_423 : decode cL_law 423 = .ok (.iconst 4, 1) := by decide +kernel
theorem dL_law_424 : decode cL_law 424 = .ok (.iadd, 1) := by decide +kernel
theorem dL_law_425 : decode cL_law 425 = .ok (.iaload, 1) := by decide +kernel
theorem dL_law_426 : decode cL_law 426 = .ok (.aload_n 0, 1) := by decide +kernel
theorem dL_law_427 : decode cL_law 427 = .ok (.iload_n 3, 1) := by decide +kernel
theorem dL_law_428 : decode cL_law 428 = .ok (.iconst 5, 1) := by decide +kernel
theorem dL_law_429 : decode cL_law 429 = .ok (.iadd, 1) := by decide +kernel
theorem dL_law_430 : decode cL_law 430 = .ok (.iaload, 1) := by decide +kernel
theorem dL_law_431 : decode cL_law 431 = .ok (.invokevirtual 36, 3) := by decide +kernel
theorem dL_law_434 : decode cL_law 434 = .ok (.if_icmp .eq 1240, 3) := by decide +kernel
theorem dL_law_437 : decode cL_law 437 = .ok (.iconst 0, 1) := by decide +kernel
theorem dL_law_438 : decode cL_law 438 = .ok (.ireturn, 1) := by decide +kernel
theorem dL_law_439 : decode cL_law 439 = .ok (.aload_n 1, 1) := by decide +kernel
theorem dL_law_440 : decode cL_law 440 = .ok (.aload_n 0, 1) := by decide +kernel
theorem dL_law_441 : decode cL_law 441 = .ok (.iload_n 3, 1) := by decide +kernel
theorem dL_law_442 : decode cL_law 442 = .ok (.iconst 1, 1) := by decide +kernel
theorem dL_law_443 : decode cL_law 443 = .ok (.iadd, 1) := by decide +kernel
theorem dL_law_444 : decode cL_law 444 = .ok (.iaload, 1) := by decide +kernel
theorem dL_law_445 : decode cL_law 445 = .ok (.invokevirtual 37, 3) := by decide +kernel
theorem dL_law_448 : decode cL_law 448 = .ok (.aload_n 2, 1) := by decide +kernel
theorem dL_law_449 : decode cL_law 449 = .ok (.aload_n 0, 1) := by decide +kernel
theorem dL_law_450 : decode cL_law 450 = .ok (.iload_n 3, 1) := by decide +kernel
theorem dL_law_451 : decode cL_law 451 = .ok (.iconst 1, 1) := by decide +kernel
theorem dL_law_452 : decode cL_law 452 = .ok (.iadd, 1) := by decide +kernel
theorem dL_law_453 : decode cL_law 453 = .ok (.iaload, 1) := by decide +kernel
theorem dL_law_454 : decode cL_law 454 = .ok (.invokevirtual 40, 3) := by decide +kernel
theorem dL_law_457 : decode cL_law 457 = .ok (.if_icmp .eq 1217, 3) := by decide +kernel
theorem dL_law_460 : decode cL_law 460 = .ok (.iconst 0, 1) := by decide +kernel
theorem dL_law_461 : decode cL_law 461 = .ok (.ireturn, 1) := by decide +kernel
theorem dL_law_462 : decode cL_law 462 = .ok (.aload_n 1, 1) := by decide +kernel
theorem dL_law_463 : decode cL_law 463 = .ok (.aload_n 0, 1) := by decide +kernel
theorem dL_law_464 : decode cL_law 464 = .ok (.iload_n 3, 1) := by decide +kernel
theorem dL_law_465 : decode cL_law 465 = .ok (.iconst 1, 1) := by decide +kernel
theorem dL_law_466 : decode cL_law 466 = .ok (.iadd, 1) := by decide +kernel
theorem dL_law_467 : decode cL_law 467 = .ok (.iaload, 1) := by decide +kernel
theorem dL_law_468 : decode cL_law 468 = .ok (.aload_n 0, 1) := by decide +kernel
theorem dL_law_469 : decode cL_law 469 = .ok (.iload_n 3, 1) := by decide +kernel
theorem dL_law_470 : decode cL_law 470 = .ok (.iconst 2, 1) := by decide +kernel
theorem dL_law_471 : decode cL_law 471 = .ok (.iadd, 1) := by decide +kernel
theorem dL_law_472 : decode cL_law 472 = .ok (.iaload, 1) := by decide +kernel
theorem dL_law_473 : decode cL_law 473 = .ok (.invokevirtual 41, 3) := by decide +kernel
theorem dL_law_476 : decode cL_law 476 = .ok (.aload_n 2, 1) := by decide +kernel
theorem dL_law_477 : decode cL_law 477 = .ok (.aload_n 0, 1) := by decide +kernel
theorem dL_law_478 : decode cL_law 478 = .ok (.iload_n 3, 1) := by decide +kernel
theorem dL_law_479 : decode cL_law 479 = .ok (.iconst 1, 1) := by decide +kernel
theorem dL_law_480 : decode cL_law 480 = .ok (.iadd, 1) := by decide +kernel
theorem dL_law_481 : decode cL_law 481 = .ok (.iaload, 1) := by decide +kernel
theorem dL_law_482 : decode cL_law 482 = .ok (.aload_n 0, 1) := by decide +kernel
theorem dL_law_483 : decode cL_law 483 = .ok (.iload_n 3, 1) := by decide +kernel
theorem dL_law_484 : decode cL_law 484 = .ok (.iconst 2, 1) := by decide +kernel
theorem dL_law_485 : decode cL_law 485 = .ok (.iadd, 1) := by decide +kernel
theorem dL_law_486 : decode cL_law 486 = .ok (.iaload, 1) := by decide +kernel
theorem dL_law_487 : decode cL_law 487 = .ok (.invokevirtual 44, 3) := by decide +kernel
theorem dL_law_490 : decode cL_law 490 = .ok (.if_icmp .eq 1184, 3) := by decide +kernel
theorem dL_law_493 : decode cL_law 493 = .ok (.iconst 0, 1) := by decide +kernel
theorem dL_law_494 : decode cL_law 494 = .ok (.ireturn, 1) := by decide +kernel
theorem dL_law_495 : decode cL_law 495 = .ok (.aload_n 1, 1) := by decide +kernel
theorem dL_law_496 : decode cL_law 496 = .ok (.aload_n 0, 1) := by decide +kernel
theorem dL_law_497 : decode cL_law 497 = .ok (.iload_n 3, 1) := by decide +kernel
theorem dL_law_498 : decode cL_law 498 = .ok (.iconst 1, 1) := by decide +kernel
theorem dL_law_499 : decode cL_law 499 = .ok (.iadd, 1) := by decide +kernel
theorem dL_law_500 : decode cL_law 500 = .ok (.iaload, 1) := by decide +kernel
theorem dL_law_501 : decode cL_law 501 = .ok (.aload_n 0, 1) := by decide +kernel
theorem dL_law_502 : decode cL_law 502 = .ok (.iload_n 3, 1) := by decide +kernel
theorem dL_law_503 : decode cL_law 503 = .ok (.iconst 2, 1) := by decide +kernel
theorem dL_law_504 : decode cL_law 504 = .ok (.iadd, 1) := by decide +kernel
theorem dL_law_505 : decode cL_law 505 = .ok (.iaload, 1) := by decide +kernel
theorem dL_law_506 : decode cL_law 506 = .ok (.aload_n 0, 1) := by decide +kernel
theorem dL_law_507 : decode cL_law 507 = .ok (.iload_n 3, 1) := by decide +kernel
theorem dL_law_508 : decode cL_law 508 = .ok (.iconst 3, 1) := by decide +kernel
theorem dL_law_509 : decode cL_law 509 = .ok (.iadd, 1) := by decide +kernel
theorem dL_law_510 : decode cL_law 510 = .ok (.iaload, 1) := by decide +kernel
theorem dL_law_511 : decode cL_law 511 = .ok (.invokevirtual 45, 3) := by decide +kernel
theorem dL_law_514 : decode cL_law 514 = .ok (.aload_n 2, 1) := by decide +kernel
theorem dL_law_515 : decode cL_law 515 = .ok (.aload_n 0, 1) := by decide +kernel
theorem dL_law_516 : decode cL_law 516 = .ok (.iload_n 3, 1) := by decide +kernel
theorem dL_law_517 : decode cL_law 517 = .ok (.iconst 1, 1) := by decide +kernel
theorem dL_law_518 : decode cL_law 518 = .ok (.iadd, 1) := by decide +kernel
theorem dL_law_519 : decode cL_law 519 = .ok (.iaload, 1) := by decide +kernel
theorem dL_law_520 : decode cL_law 520 = .ok (.aload_n 0, 1) := by decide +kernel
theorem dL_law_521 : decode cL_law 521 = .ok (.iload_n 3, 1) := by decide +kernel
theorem dL_law_522 : decode cL_law 522 = .ok (.iconst 2, 1) := by decide +kernel
theorem dL_law_523 : decode cL_law 523 = .ok (.iadd, 1) := by decide +kernel
theorem dL_law_524 : decode cL_law 524 = .ok (.iaload, 1) := by decide +kernel
theorem dL_law_525 : decode cL_law 525 = .ok (.aload_n 0, 1) := by decide +kernel
theorem dL_law_526 : decode cL_law 526 = .ok (.iload_n 3, 1) := by decide +kernel
theorem dL_law_527 : decode cL_law 527 = .ok (.iconst 3, 1) := by decide +kernel
theorem dL_law_528 : decode cL_law 528 = .ok (.iadd, 1) := by decide +kernel
theorem dL_law_529 : decode cL_law 529 = .ok (.iaload, 1) := by decide +kernel
theorem dL_law_530 : decode cL_law 530 = .ok (.invokevirtual 48, 3) := by decide +kernel
theorem dL_law_533 : decode cL_law 533 = .ok (.if_icmp .eq 1141, 3) := by decide +kernel
theorem dL_law_536 : decode cL_law 536 = .ok (.iconst 0, 1) := by decide +kernel
theorem dL_law_537 : decode cL_law 537 = .ok (.ireturn, 1) := by decide +kernel
theorem dL_law_538 : decode cL_law 538 = .ok (.aload_n 1, 1) := by decide +kernel
theorem dL_law_539 : decode cL_law 539 = .ok (.aload_n 0, 1) := by decide +kernel
theorem dL_law_540 : decode cL_law 540 = .ok (.iload_n 3, 1) := by decide +kernel
theorem dL_law_541 : decode cL_law 541 = .ok (.iconst 1, 1) := by decide +kernel
theorem dL_law_542 : decode cL_law 542 = .ok (.iadd, 1) := by decide +kernel
theorem dL_law_543 : decode cL_law 543 = .ok (.iaload, 1) := by decide +kernel
theorem dL_law_544 : decode cL_law 544 = .ok (.invokevirtual 49, 3) := by decide +kernel
theorem dL_law_547 : decode cL_law 547 = .ok (.aload_n 2, 1) := by decide +kernel
theorem dL_law_548 : decode cL_law 548 = .ok (.aload_n 0, 1) := by decide +kernel
theorem dL_law_549 : decode cL_law 549 = .ok (.iload_n 3, 1) := by decide +kernel
theorem dL_law_550 : decode cL_law 550 = .ok (.iconst 1, 1) := by decide +kernel
theorem dL_law_551 : decode cL_law 551 = .ok (.iadd, 1) := by decide +kernel
theorem dL_law_552 : decode cL_law 552 = .ok (.iaload, 1) := by decide +kernel
theorem dL_law_553 : decode cL_law 553 = .ok (.invokevirtual 52, 3) := by decide +kernel
theorem dL_law_556 : decode cL_law 556 = .ok (.if_icmp .eq 1118, 3) := by decide +kernel
theorem dL_law_559 : decode cL_law 559 = .ok (.iconst 0, 1) := by decide +kernel
theorem dL_law_560 : decode cL_law 560 = .ok (.ireturn, 1) := by decide +kernel
theorem dL_law_561 : decode cL_law 561 = .ok (.aload_n 1, 1) := by decide +kernel
theorem dL_law_562 : decode cL_law 562 = .ok (.aload_n 0, 1) := by decide +kernel
theorem dL_law_563 : decode cL_law 563 = .ok (.iload_n 3, 1) := by decide +kernel
theorem dL_law_564 : decode cL_law 564 = .ok (.iconst 1, 1) := by decide +kernel
theorem dL_law_565 : decode cL_law 565 = .ok (.iadd, 1) := by decide +kernel
theorem dL_law_566 : decode cL_law 566 = .ok (.iaload, 1) := by decide +kernel
theorem dL_law_567 : decode cL_law 567 = .ok (.invokevirtual 53, 3) := by decide +kernel
theorem dL_law_570 : decode cL_law 570 = .ok (.aload_n 2, 1) := by decide +kernel
theorem dL_law_571 : decode cL_law 571 = .ok (.aload_n 0, 1) := by decide +kernel
theorem dL_law_572 : decode cL_law 572 = .ok (.iload_n 3, 1) := by decide +kernel
theorem dL_law_573 : decode cL_law 573 = .ok (.iconst 1, 1) := by decide +kernel
theorem dL_law_574 : decode cL_law 574 = .ok (.iadd, 1) := by decide +kernel
theorem dL_law_575 : decode cL_law 575 = .ok (.iaload, 1) := by decide +kernel
theorem dL_law_576 : decode cL_law 576 = .ok (.invokevirtual 56, 3) := by decide +kernel
theorem dL_law_579 : decode cL_law 579 = .ok (.if_icmp .eq 1095, 3) := by decide +kernel
theorem dL_law_582 : decode cL_law 582 = .ok (.iconst 0, 1) := by decide +kernel
theorem dL_law_583 : decode cL_law 583 = .ok (.ireturn, 1) := by decide +kernel
theorem dL_law_584 : decode cL_law 584 = .ok (.aload_n 1, 1) := by decide +kernel
theorem dL_law_585 : decode cL_law 585 = .ok (.aload_n 0, 1) := by decide +kernel
theorem dL_law_586 : decode cL_law 586 = .ok (.iload_n 3, 1) := by decide +kernel
theorem dL_law_587 : decode cL_law 587 = .ok (.iconst 1, 1) := by decide +kernel
theorem dL_law_588 : decode cL_law 588 = .ok (.iadd, 1) := by decide +kernel
theorem dL_law_589 : decode cL_law 589 = .ok (.iaload, 1) := by decide +kernel
theorem dL_law_590 : decode cL_law 590 = .ok (.aload_n 0, 1) := by decide +kernel
theorem dL_law_591 : decode cL_law 591 = .ok (.iload_n 3, 1) := by decide +kernel
theorem dL_law_592 : decode cL_law 592 = .ok (.iconst 2, 1) := by decide +kernel
theorem dL_law_593 : decode cL_law 593 = .ok (.iadd, 1) := by decide +kernel
theorem dL_law_594 : decode cL_law 594 = .ok (.iaload, 1) := by decide +kernel
theorem dL_law_595 : decode cL_law 595 = .ok (.invokevirtual 57, 3) := by decide +kernel
theorem dL_law_598 : decode cL_law 598 = .ok (.aload_n 2, 1) := by decide +kernel
theorem dL_law_599 : decode cL_law 599 = .ok (.aload_n 0, 1) := by decide +kernel
theorem dL_law_600 : decode cL_law 600 = .ok (.iload_n 3, 1) := by decide +kernel
theorem dL_law_601 : decode cL_law 601 = .ok (.iconst 1, 1) := by decide +kernel
theorem dL_law_602 : decode cL_law 602 = .ok (.iadd, 1) := by decide +kernel
theorem dL_law_603 : decode cL_law 603 = .ok (.iaload, 1) := by decide +kernel
theorem dL_law_604 : decode cL_law 604 = .ok (.aload_n 0, 1) := by decide +kernel
theorem dL_law_605 : decode cL_law 605 = .ok (.iload_n 3, 1) := by decide +kernel
theorem dL_law_606 : decode cL_law 606 = .ok (.iconst 2, 1) := by decide +kernel
theorem dL_law_607 : decode cL_law 607 = .ok (.iadd, 1) := by decide +kernel
theorem dL_law_608 : decode cL_law 608 = .ok (.iaload, 1) := by decide +kernel
theorem dL_law_609 : decode cL_law 609 = .ok (.invokevirtual 60, 3) := by decide +kernel
theorem dL_law_612 : decode cL_law 612 = .ok (.if_icmp .eq 1062, 3) := by decide +kernel
theorem dL_law_615 : decode cL_law 615 = .ok (.iconst 0, 1) := by decide +kernel
theorem dL_law_616 : decode cL_law 616 = .ok (.ireturn, 1) := by decide +kernel
theorem dL_law_617 : decode cL_law 617 = .ok (.aload_n 1, 1) := by decide +kernel
theorem dL_law_618 : decode cL_law 618 = .ok (.aload_n 0, 1) := by decide +kernel
theorem dL_law_619 : decode cL_law 619 = .ok (.iload_n 3, 1) := by decide +kernel
theorem dL_law_620 : decode cL_law 620 = .ok (.iconst 1, 1) := by decide +kernel
theorem dL_law_621 : decode cL_law 621 = .ok (.iadd, 1) := by decide +kernel
theorem dL_law_622 : decode cL_law 622 = .ok (.iaload, 1) := by decide +kernel
theorem dL_law_623 : decode cL_law 623 = .ok (.aload_n 0, 1) := by decide +kernel
theorem dL_law_624 : decode cL_law 624 = .ok (.iload_n 3, 1) := by decide +kernel
theorem dL_law_625 : decode cL_law 625 = .ok (.iconst 2, 1) := by decide +kernel
theorem dL_law_626 : decode cL_law 626 = .ok (.iadd, 1) := by decide +kernel
theorem dL_law_627 : decode cL_law 627 = .ok (.iaload, 1) := by decide +kernel
theorem dL_law_628 : decode cL_law 628 = .ok (.invokevirtual 61, 3) := by decide +kernel
theorem dL_law_631 : decode cL_law 631 = .ok (.aload_n 2, 1) := by decide +kernel
theorem dL_law_632 : decode cL_law 632 = .ok (.aload_n 0, 1) := by decide +kernel
theorem dL_law_633 : decode cL_law 633 = .ok (.iload_n 3, 1) := by decide +kernel
theorem dL_law_634 : decode cL_law 634 = .ok (.iconst 1, 1) := by decide +kernel
theorem dL_law_635 : decode cL_law 635 = .ok (.iadd, 1) := by decide +kernel
theorem dL_law_636 : decode cL_law 636 = .ok (.iaload, 1) := by decide +kernel
theorem dL_law_637 : decode cL_law 637 = .ok (.aload_n 0, 1) := by decide +kernel
theorem dL_law_638 : decode cL_law 638 = .ok (.iload_n 3, 1) := by decide +kernel
theorem dL_law_639 : decode cL_law 639 = .ok (.iconst 2, 1) := by decide +kernel
theorem dL_law_640 : decode cL_law 640 = .ok (.iadd, 1) := by decide +kernel
theorem dL_law_641 : decode cL_law 641 = .ok (.iaload, 1) := by decide +kernel
theorem dL_law_642 : decode cL_law 642 = .ok (.invokevirtual 64, 3) := by decide +kernel
theorem dL_law_645 : decode cL_law 645 = .ok (.if_icmp .eq 1029, 3) := by decide +kernel
theorem dL_law_648 : decode cL_law 648 = .ok (.iconst 0, 1) := by decide +kernel
theorem dL_law_649 : decode cL_law 649 = .ok (.ireturn, 1) := by decide +kernel
theorem dL_law_650 : decode cL_law 650 = .ok (.aload_n 1, 1) := by decide +kernel
theorem dL_law_651 : decode cL_law 651 = .ok (.aload_n 0, 1) := by decide +kernel
theorem dL_law_652 : decode cL_law 652 = .ok (.iload_n 3, 1) := by decide +kernel
theorem dL_law_653 : decode cL_law 653 = .ok (.iconst 1, 1) := by decide +kernel
theorem dL_law_654 : decode cL_law 654 = .ok (.iadd, 1) := by decide +kernel
theorem dL_law_655 : decode cL_law 655 = .ok (.iaload, 1) := by decide +kernel
theorem dL_law_656 : decode cL_law 656 = .ok (.invokevirtual 65, 3) := by decide +kernel
theorem dL_law_659 : decode cL_law 659 = .ok (.aload_n 2, 1) := by decide +kernel
theorem dL_law_660 : decode cL_law 660 = .ok (.aload_n 0, 1) := by decide +kernel
theorem dL_law_661 : decode cL_law 661 = .ok (.iload_n 3, 1) := by decide +kernel
theorem dL_law_662 : decode cL_law 662 = .ok (.iconst 1, 1) := by decide +kernel
theorem dL_law_663 : decode cL_law 663 = .ok (.iadd, 1) := by decide +kernel
theorem dL_law_664 : decode cL_law 664 = .ok (.iaload, 1) := by decide +kernel
theorem dL_law_665 : decode cL_law 665 = .ok (.invokevirtual 68, 3) := by decide +kernel
theorem dL_law_668 : decode cL_law 668 = .ok (.if_icmp .eq 1006, 3) := by decide +kernel
theorem dL_law_671 : decode cL_law 671 = .ok (.iconst 0, 1) := by decide +kernel
theorem dL_law_672 : decode cL_law 672 = .ok (.ireturn, 1) := by decide +kernel
theorem dL_law_673 : decode cL_law 673 = .ok (.aload_n 1, 1) := by decide +kernel
theorem dL_law_674 : decode cL_law 674 = .ok (.aload_n 0, 1) := by decide +kernel
theorem dL_law_675 : decode cL_law 675 = .ok (.iload_n 3, 1) := by decide +kernel
theorem dL_law_676 : decode cL_law 676 = .ok (.iconst 1, 1) := by decide +kernel
theorem dL_law_677 : decode cL_law 677 = .ok (.iadd, 1) := by decide +kernel
theorem dL_law_678 : decode cL_law 678 = .ok (.iaload, 1) := by decide +kernel
theorem dL_law_679 : decode cL_law 679 = .ok (.aload_n 0, 1) := by decide +kernel
theorem dL_law_680 : decode cL_law 680 = .ok (.iload_n 3, 1) := by decide +kernel
theorem dL_law_681 : decode cL_law 681 = .ok (.iconst 2, 1) := by decide +kernel
theorem dL_law_682 : decode cL_law 682 = .ok (.iadd, 1) := by decide +kernel
theorem dL_law_683 : decode cL_law 683 = .ok (.iaload, 1) := by decide +kernel
theorem dL_law_684 : decode cL_law 684 = .ok (.invokevirtual 69, 3) := by decide +kernel
theorem dL_law_687 : decode cL_law 687 = .ok (.aload_n 2, 1) := by decide +kernel
theorem dL_law_688 : decode cL_law 688 = .ok (.aload_n 0, 1) := by decide +kernel
theorem dL_law_689 : decode cL_law 689 = .ok (.iload_n 3, 1) := by decide +kernel
theorem dL_law_690 : decode cL_law 690 = .ok (.iconst 1, 1) := by decide +kernel
theorem dL_law_691 : decode cL_law 691 = .ok (.iadd, 1) := by decide +kernel
theorem dL_law_692 : decode cL_law 692 = .ok (.iaload, 1) := by decide +kernel
theorem dL_law_693 : decode cL_law 693 = .ok (.aload_n 0, 1) := by decide +kernel
theorem dL_law_694 : decode cL_law 694 = .ok (.iload_n 3, 1) := by decide +kernel
theorem dL_law_695 : decode cL_law 695 = .ok (.iconst 2, 1) := by decide +kernel
theorem dL_law_696 : decode cL_law 696 = .ok (.iadd, 1) := by decide +kernel
theorem dL_law_697 : decode cL_law 697 = .ok (.iaload, 1) := by decide +kernel
theorem dL_law_698 : decode cL_law 698 = .ok (.invokevirtual 72, 3) := by decide +kernel
theorem dL_law_701 : decode cL_law 701 = .ok (.if_icmp .eq 973, 3) := by decide +kernel
theorem dL_law_704 : decode cL_law 704 = .ok (.iconst 0, 1) := by decide +kernel
theorem dL_law_705 : decode cL_law 705 = .ok (.ireturn, 1) := by decide +kernel
theorem dL_law_706 : decode cL_law 706 = .ok (.aload_n 1, 1) := by decide +kernel
theorem dL_law_707 : decode cL_law 707 = .ok (.aload_n 0, 1) := by decide +kernel
theorem dL_law_708 : decode cL_law 708 = .ok (.iload_n 3, 1) := by decide +kernel
theorem dL_law_709 : decode cL_law 709 = .ok (.iconst 1, 1) := by decide +kernel
theorem dL_law_710 : decode cL_law 710 = .ok (.iadd, 1) := by decide +kernel
theorem dL_law_711 : decode cL_law 711 = .ok (.iaload, 1) := by decide +kernel
theorem dL_law_712 : decode cL_law 712 = .ok (.invokevirtual 73, 3) := by decide +kernel
theorem dL_law_715 : decode cL_law 715 = .ok (.aload_n 2, 1) := by decide +kernel
theorem dL_law_716 : decode cL_law 716 = .ok (.aload_n 0, 1) := by decide +kernel
theorem dL_law_717 : decode cL_law 717 = .ok (.iload_n 3, 1) := by decide +kernel
theorem dL_law_718 : decode cL_law 718 = .ok (.iconst 1, 1) := by decide +kernel
theorem dL_law_719 : decode cL_law 719 = .ok (.iadd, 1) := by decide +kernel
theorem dL_law_720 : decode cL_law 720 = .ok (.iaload, 1) := by decide +kernel
theorem dL_law_721 : decode cL_law 721 = .ok (.invokevirtual 76, 3) := by decide +kernel
theorem dL_law_724 : decode cL_law 724 = .ok (.if_icmp .eq 950, 3) := by decide +kernel
theorem dL_law_727 : decode cL_law 727 = .ok (.iconst 0, 1) := by decide +kernel
theorem dL_law_728 : decode cL_law 728 = .ok (.ireturn, 1) := by decide +kernel
theorem dL_law_729 : decode cL_law 729 = .ok (.aload_n 1, 1) := by decide +kernel
theorem dL_law_730 : decode cL_law 730 = .ok (.aload_n 0, 1) := by decide +kernel
theorem dL_law_731 : decode cL_law 731 = .ok (.iload_n 3, 1) := by decide +kernel
theorem dL_law_732 : decode cL_law 732 = .ok (.iconst 1, 1) := by decide +kernel
theorem dL_law_733 : decode cL_law 733 = .ok (.iadd, 1) := by decide +kernel
theorem dL_law_734 : decode cL_law 734 = .ok (.iaload, 1) := by decide +kernel
theorem dL_law_735 : decode cL_law 735 = .ok (.invokevirtual 77, 3) := by decide +kernel
theorem dL_law_738 : decode cL_law 738 = .ok (.aload_n 2, 1) := by decide +kernel
theorem dL_law_739 : decode cL_law 739 = .ok (.aload_n 0, 1) := by decide +kernel
theorem dL_law_740 : decode cL_law 740 = .ok (.iload_n 3, 1) := by decide +kernel
theorem dL_law_741 : decode cL_law 741 = .ok (.iconst 1, 1) := by decide +kernel
theorem dL_law_742 : decode cL_law 742 = .ok (.iadd, 1) := by decide +kernel
theorem dL_law_743 : decode cL_law 743 = .ok (.iaload, 1) := by decide +kernel
theorem dL_law_744 : decode cL_law 744 = .ok (.invokevirtual 80, 3) := by decide +kernel
theorem dL_law_747 : decode cL_law 747 = .ok (.if_icmp .eq 927, 3) := by decide +kernel
theorem dL_law_750 : decode cL_law 750 = .ok (.iconst 0, 1) := by decide +kernel
theorem dL_law_751 : decode cL_law 751 = .ok (.ireturn, 1) := by decide +kernel
theorem dL_law_752 : decode cL_law 752 = .ok (.aload_n 1, 1) := by decide +kernel
theorem dL_law_753 : decode cL_law 753 = .ok (.aload_n 0, 1) := by decide +kernel
theorem dL_law_754 : decode cL_law 754 = .ok (.iload_n 3, 1) := by decide +kernel
theorem dL_law_755 : decode cL_law 755 = .ok (.iconst 1, 1) := by decide +kernel
theorem dL_law_756 : decode cL_law 756 = .ok (.iadd, 1) := by decide +kernel
theorem dL_law_757 : decode cL_law 757 = .ok (.iaload, 1) := by decide +kernel
theorem dL_law_758 : decode cL_law 758 = .ok (.invokevirtual 81, 3) := by decide +kernel
theorem dL_law_761 : decode cL_law 761 = .ok (.aload_n 2, 1) := by decide +kernel
theorem dL_law_762 : decode cL_law 762 = .ok (.aload_n 0, 1) := by decide +kernel
theorem dL_law_763 : decode cL_law 763 = .ok (.iload_n 3, 1) := by decide +kernel
theorem dL_law_764 : decode cL_law 764 = .ok (.iconst 1, 1) := by decide +kernel
theorem dL_law_765 : decode cL_law 765 = .ok (.iadd, 1) := by decide +kernel
theorem dL_law_766 : decode cL_law 766 = .ok (.iaload, 1) := by decide +kernel
theorem dL_law_767 : decode cL_law 767 = .ok (.invokevirtual 84, 3) := by decide +kernel
theorem dL_law_770 : decode cL_law 770 = .ok (.if_icmp .eq 904, 3) := by decide +kernel
theorem dL_law_773 : decode cL_law 773 = .ok (.iconst 0, 1) := by decide +kernel
theorem dL_law_774 : decode cL_law 774 = .ok (.ireturn, 1) := by decide +kernel
theorem dL_law_775 : decode cL_law 775 = .ok (.aload_n 1, 1) := by decide +kernel
theorem dL_law_776 : decode cL_law 776 = .ok (.aload_n 0, 1) := by decide +kernel
theorem dL_law_777 : decode cL_law 777 = .ok (.iload_n 3, 1) := by decide +kernel
theorem dL_law_778 : decode cL_law 778 = .ok (.iconst 1, 1) := by decide +kernel
theorem dL_law_779 : decode cL_law 779 = .ok (.iadd, 1) := by decide +kernel
theorem dL_law_780 : decode cL_law 780 = .ok (.iaload, 1) := by decide +kernel
theorem dL_law_781 : decode cL_law 781 = .ok (.invokevirtual 85, 3) := by decide +kernel
theorem dL_law_784 : decode cL_law 784 = .ok (.aload_n 2, 1) := by decide +kernel
theorem dL_law_785 : decode cL_law 785 = .ok (.aload_n 0, 1) := by decide +kernel
theorem dL_law_786 : decode cL_law 786 = .ok (.iload_n 3, 1) := by decide +kernel
theorem dL_law_787 : decode cL_law 787 = .ok (.iconst 1, 1) := by decide +kernel
theorem dL_law_788 : decode cL_law 788 = .ok (.iadd, 1) := by decide +kernel
theorem dL_law_789 : decode cL_law 789 = .ok (.iaload, 1) := by decide +kernel
theorem dL_law_790 : decode cL_law 790 = .ok (.invokevirtual 88, 3) := by decide +kernel
theorem dL_law_793 : decode cL_law 793 = .ok (.if_icmp .eq 881, 3) := by decide +kernel
theorem dL_law_796 : decode cL_law 796 = .ok (.iconst 0, 1) := by decide +kernel
theorem dL_law_797 : decode cL_law 797 = .ok (.ireturn, 1) := by decide +kernel
theorem dL_law_798 : decode cL_law 798 = .ok (.aload_n 1, 1) := by decide +kernel
theorem dL_law_799 : decode cL_law 799 = .ok (.aload_n 0, 1) := by decide +kernel
theorem dL_law_800 : decode cL_law 800 = .ok (.iload_n 3, 1) := by decide +kernel
theorem dL_law_801 : decode cL_law 801 = .ok (.iconst 1, 1) := by decide +kernel
theorem dL_law_802 : decode cL_law 802 = .ok (.iadd, 1) := by decide +kernel
theorem dL_law_803 : decode cL_law 803 = .ok (.iaload, 1) := by decide +kernel
theorem dL_law_804 : decode cL_law 804 = .ok (.invokevirtual 89, 3) := by decide +kernel
theorem dL_law_807 : decode cL_law 807 = .ok (.aload_n 2, 1) := by decide +kernel
theorem dL_law_808 : decode cL_law 808 = .ok (.aload_n 0, 1) := by decide +kernel
theorem dL_law_809 : decode cL_law 809 = .ok (.iload_n 3, 1) := by decide +kernel
theorem dL_law_810 : decode cL_law 810 = .ok (.iconst 1, 1) := by decide +kernel
theorem dL_law_811 : decode cL_law 811 = .ok (.iadd, 1) := by decide +kernel
theorem dL_law_812 : decode cL_law 812 = .ok (.iaload, 1) := by decide +kernel
theorem dL_law_813 : decode cL_law 813 = .ok (.invokevirtual 92, 3) := by decide +kernel
theorem dL_law_816 : decode cL_law 816 = .ok (.if_icmp .eq 858, 3) := by decide +kernel
theorem dL_law_819 : decode cL_law 819 = .ok (.iconst 0, 1) := by decide +kernel
theorem dL_law_820 : decode cL_law 820 = .ok (.ireturn, 1) := by decide +kernel
theorem dL_law_821 : decode cL_law 821 = .ok (.aload_n 1, 1) := by decide +kernel
theorem dL_law_822 : decode cL_law 822 = .ok (.aload_n 0, 1) := by decide +kernel
theorem dL_law_823 : decode cL_law 823 = .ok (.iload_n 3, 1) := by decide +kernel
theorem dL_law_824 : decode cL_law 824 = .ok (.iconst 1, 1) := by decide +kernel
theorem dL_law_825 : decode cL_law 825 = .ok (.iadd, 1) := by decide +kernel
theorem dL_law_826 : decode cL_law 826 = .ok (.iaload, 1) := by decide +kernel
theorem dL_law_827 : decode cL_law 827 = .ok (.aload_n 0, 1) := by decide +kernel
theorem dL_law_828 : decode cL_law 828 = .ok (.iload_n 3, 1) := by decide +kernel
theorem dL_law_829 : decode cL_law 829 = .ok (.iconst 2, 1) := by decide +kernel
theorem dL_law_830 : decode cL_law 830 = .ok (.iadd, 1) := by decide +kernel
theorem dL_law_831 : decode cL_law 831 = .ok (.iaload, 1) := by decide +kernel
theorem dL_law_832 : decode cL_law 832 = .ok (.invokevirtual 93, 3) := by decide +kernel
theorem dL_law_835 : decode cL_law 835 = .ok (.aload_n 2, 1) := by decide +kernel
theorem dL_law_836 : decode cL_law 836 = .ok (.aload_n 0, 1) := by decide +kernel
theorem dL_law_837 : decode cL_law 837 = .ok (.iload_n 3, 1) := by decide +kernel
theorem dL_law_838 : decode cL_law 838 = .ok (.iconst 1, 1) := by decide +kernel
theorem dL_law_839 : decode cL_law 839 = .ok (.iadd, 1) := by decide +kernel
theorem dL_law_840 : decode cL_law 840 = .ok (.iaload, 1) := by decide +kernel
theorem dL_law_841 : decode cL_law 841 = .ok (.aload_n 0, 1) := by decide +kernel
theorem dL_law_842 : decode cL_law 842 = .ok (.iload_n 3, 1) := by decide +kernel
theorem dL_law_843 : decode cL_law 843 = .ok (.iconst 2, 1) := by decide +kernel
theorem dL_law_844 : decode cL_law 844 = .ok (.iadd, 1) := by decide +kernel
theorem dL_law_845 : decode cL_law 845 = .ok (.iaload, 1) := by decide +kernel
theorem dL_law_846 : decode cL_law 846 = .ok (.invokevirtual 96, 3) := by decide +kernel
theorem dL_law_849 : decode cL_law 849 = .ok (.if_icmp .eq 825, 3) := by decide +kernel
theorem dL_law_852 : decode cL_law 852 = .ok (.iconst 0, 1) := by decide +kernel
theorem dL_law_853 : decode cL_law 853 = .ok (.ireturn, 1) := by decide +kernel
theorem dL_law_854 : decode cL_law 854 = .ok (.aload_n 1, 1) := by decide +kernel
theorem dL_law_855 : decode cL_law 855 = .ok (.aload_n 0, 1) := by decide +kernel
theorem dL_law_856 : decode cL_law 856 = .ok (.iload_n 3, 1) := by decide +kernel
theorem dL_law_857 : decode cL_law 857 = .ok (.iconst 1, 1) := by decide +kernel
theorem dL_law_858 : decode cL_law 858 = .ok (.iadd, 1) := by decide +kernel
theorem dL_law_859 : decode cL_law 859 = .ok (.iaload, 1) := by decide +kernel
theorem dL_law_860 : decode cL_law 860 = .ok (.invokevirtual 97, 3) := by decide +kernel
theorem dL_law_863 : decode cL_law 863 = .ok (.aload_n 2, 1) := by decide +kernel
theorem dL_law_864 : decode cL_law 864 = .ok (.aload_n 0, 1) := by decide +kernel
theorem dL_law_865 : decode cL_law 865 = .ok (.iload_n 3, 1) := by decide +kernel
theorem dL_law_866 : decode cL_law 866 = .ok (.iconst 1, 1) := by decide +kernel
theorem dL_law_867 : decode cL_law 867 = .ok (.iadd, 1) := by decide +kernel
theorem dL_law_868 : decode cL_law 868 = .ok (.iaload, 1) := by decide +kernel
theorem dL_law_869 : decode cL_law 869 = .ok (.invokevirtual 100, 3) := by decide +kernel
theorem dL_law_872 : decode cL_law 872 = .ok (.if_icmp .eq 802, 3) := by decide +kernel
theorem dL_law_875 : decode cL_law 875 = .ok (.iconst 0, 1) := by decide +kernel
theorem dL_law_876 : decode cL_law 876 = .ok (.ireturn, 1) := by decide +kernel
theorem dL_law_877 : decode cL_law 877 = .ok (.aload_n 1, 1) := by decide +kernel
theorem dL_law_878 : decode cL_law 878 = .ok (.aload_n 0, 1) := by decide +kernel
theorem dL_law_879 : decode cL_law 879 = .ok (.iload_n 3, 1) := by decide +kernel
theorem dL_law_880 : decode cL_law 880 = .ok (.iconst 1, 1) := by decide +kernel
theorem dL_law_881 : decode cL_law 881 = .ok (.iadd, 1) := by decide +kernel
theorem dL_law_882 : decode cL_law 882 = .ok (.iaload, 1) := by decide +kernel
theorem dL_law_883 : decode cL_law 883 = .ok (.aload_n 0, 1) := by decide +kernel
theorem dL_law_884 : decode cL_law 884 = .ok (.iload_n 3, 1) := by decide +kernel
theorem dL_law_885 : decode cL_law 885 = .ok (.iconst 2, 1) := by decide +kernel
theorem dL_law_886 : decode cL_law 886 = .ok (.iadd, 1) := by decide +kernel
theorem dL_law_887 : decode cL_law 887 = .ok (.iaload, 1) := by decide +kernel
theorem dL_law_888 : decode cL_law 888 = .ok (.invokevirtual 101, 3) := by decide +kernel
theorem dL_law_891 : decode cL_law 891 = .ok (.aload_n 2, 1) := by decide +kernel
theorem dL_law_892 : decode cL_law 892 = .ok (.aload_n 0, 1) := by decide +kernel
theorem dL_law_893 : decode cL_law 893 = .ok (.iload_n 3, 1) := by decide +kernel
theorem dL_law_894 : decode cL_law 894 = .ok (.iconst 1, 1) := by decide +kernel
theorem dL_law_895 : decode cL_law 895 = .ok (.iadd, 1) := by decide +kernel
theorem dL_law_896 : decode cL_law 896 = .ok (.iaload, 1) := by decide +kernel
theorem dL_law_897 : decode cL_law 897 = .ok (.aload_n 0, 1) := by decide +kernel
theorem dL_law_898 : decode cL_law 898 = .ok (.iload_n 3, 1) := by decide +kernel
theorem dL_law_899 : decode cL_law 899 = .ok (.iconst 2, 1) := by decide +kernel
theorem dL_law_900 : decode cL_law 900 = .ok (.iadd, 1) := by decide +kernel
theorem dL_law_901 : decode cL_law 901 = .ok (.iaload, 1) := by decide +kernel
theorem dL_law_902 : decode cL_law 902 = .ok (.invokevirtual 104, 3) := by decide +kernel
theorem dL_law_905 : decode cL_law 905 = .ok (.if_icmp .eq 769, 3) := by decide +kernel
theorem dL_law_908 : decode cL_law 908 = .ok (.iconst 0, 1) := by decide +kernel
theorem dL_law_909 : decode cL_law 909 = .ok (.ireturn, 1) := by decide +kernel
theorem dL_law_910 : decode cL_law 910 = .ok (.aload_n 1, 1) := by decide +kernel
theorem dL_law_911 : decode cL_law 911 = .ok (.aload_n 0, 1) := by decide +kernel
theorem dL_law_912 : decode cL_law 912 = .ok (.iload_n 3, 1) := by decide +kernel
theorem dL_law_913 : decode cL_law 913 = .ok (.iconst 1, 1) := by decide +kernel
theorem dL_law_914 : decode cL_law 914 = .ok (.iadd, 1) := by decide +kernel
theorem dL_law_915 : decode cL_law 915 = .ok (.iaload, 1) := by decide +kernel
theorem dL_law_916 : decode cL_law 916 = .ok (.aload_n 0, 1) := by decide +kernel
theorem dL_law_917 : decode cL_law 917 = .ok (.iload_n 3, 1) := by decide +kernel
theorem dL_law_918 : decode cL_law 918 = .ok (.iconst 2, 1) := by decide +kernel
theorem dL_law_919 : decode cL_law 919 = .ok (.iadd, 1) := by decide +kernel
theorem dL_law_920 : decode cL_law 920 = .ok (.iaload, 1) := by decide +kernel
theorem dL_law_921 : decode cL_law 921 = .ok (.invokevirtual 105, 3) := by decide +kernel
theorem dL_law_924 : decode cL_law 924 = .ok (.aload_n 2, 1) := by decide +kernel
theorem dL_law_925 : decode cL_law 925 = .ok (.aload_n 0, 1) := by decide +kernel
theorem dL_law_926 : decode cL_law 926 = .ok (.iload_n 3, 1) := by decide +kernel
theorem dL_law_927 : decode cL_law 927 = .ok (.iconst 1, 1) := by decide +kernel
theorem dL_law_928 : decode cL_law 928 = .ok (.iadd, 1) := by decide +kernel
theorem dL_law_929 : decode cL_law 929 = .ok (.iaload, 1) := by decide +kernel
theorem dL_law_930 : decode cL_law 930 = .ok (.aload_n 0, 1) := by decide +kernel
theorem dL_law_931 : decode cL_law 931 = .ok (.iload_n 3, 1) := by decide +kernel
theorem dL_law_932 : decode cL_law 932 = .ok (.iconst 2, 1) := by decide +kernel
theorem dL_law_933 : decode cL_law 933 = .ok (.iadd, 1) := by decide +kernel
theorem dL_law_934 : decode cL_law 934 = .ok (.iaload, 1) := by decide +kernel
theorem dL_law_935 : decode cL_law 935 = .ok (.invokevirtual 108, 3) := by decide +kernel
theorem dL_law_938 : decode cL_law 938 = .ok (.if_icmp .eq 736, 3) := by decide +kernel
theorem dL_law_941 : decode cL_law 941 = .ok (.iconst 0, 1) := by decide +kernel
theorem dL_law_942 : decode cL_law 942 = .ok (.ireturn, 1) := by decide +kernel
theorem dL_law_943 : decode cL_law 943 = .ok (.aload_n 1, 1) := by decide +kernel
theorem dL_law_944 : decode cL_law 944 = .ok (.aload_n 0, 1) := by decide +kernel
theorem dL_law_945 : decode cL_law 945 = .ok (.iload_n 3, 1) := by decide +kernel
theorem dL_law_946 : decode cL_law 946 = .ok (.iconst 1, 1) := by decide +kernel
theorem dL_law_947 : decode cL_law 947 = .ok (.iadd, 1) := by decide +kernel
theorem dL_law_948 : decode cL_law 948 = .ok (.iaload, 1) := by decide +kernel
theorem dL_law_949 : decode cL_law 949 = .ok (.aload_n 0, 1) := by decide +kernel
theorem dL_law_950 : decode cL_law 950 = .ok (.iload_n 3, 1) := by decide +kernel
theorem dL_law_951 : decode cL_law 951 = .ok (.iconst 2, 1) := by decide +kernel
theorem dL_law_952 : decode cL_law 952 = .ok (.iadd, 1) := by decide +kernel
theorem dL_law_953 : decode cL_law 953 = .ok (.iaload, 1) := by decide +kernel
theorem dL_law_954 : decode cL_law 954 = .ok (.aload_n 0, 1) := by decide +kernel
theorem dL_law_955 : decode cL_law 955 = .ok (.iload_n 3, 1) := by decide +kernel
theorem dL_law_956 : decode cL_law 956 = .ok (.iconst 3, 1) := by decide +kernel
theorem dL_law_957 : decode cL_law 957 = .ok (.iadd, 1) := by decide +kernel
theorem dL_law_958 : decode cL_law 958 = .ok (.iaload, 1) := by decide +kernel
theorem dL_law_959 : decode cL_law 959 = .ok (.aload_n 0, 1) := by decide +kernel
theorem dL_law_960 : decode cL_law 960 = .ok (.iload_n 3, 1) := by decide +kernel
theorem dL_law_961 : decode cL_law 961 = .ok (.iconst 4, 1) := by decide +kernel
theorem dL_law_962 : decode cL_law 962 = .ok (.iadd, 1) := by decide +kernel
theorem dL_law_963 : decode cL_law 963 = .ok (.iaload, 1) := by decide +kernel
theorem dL_law_964 : decode cL_law 964 = .ok (.invokevirtual 109, 3) := by decide +kernel
theorem dL_law_967 : decode cL_law 967 = .ok (.aload_n 2, 1) := by decide +kernel
theorem dL_law_968 : decode cL_law 968 = .ok (.aload_n 0, 1) := by decide +kernel
theorem dL_law_969 : decode cL_law 969 = .ok (.iload_n 3, 1) := by decide +kernel
theorem dL_law_970 : decode cL_law 970 = .ok (.iconst 1, 1) := by decide +kernel
theorem dL_law_971 : decode cL_law 971 = .ok (.iadd, 1) := by decide +kernel
theorem dL_law_972 : decode cL_law 972 = .ok (.iaload, 1) := by decide +kernel
theorem dL_law_973 : decode cL_law 973 = .ok (.aload_n 0, 1) := by decide +kernel
theorem dL_law_974 : decode cL_law 974 = .ok (.iload_n 3, 1) := by decide +kernel
theorem dL_law_975 : decode cL_law 975 = .ok (.iconst 2, 1) := by decide +kernel
theorem dL_law_976 : decode cL_law 976 = .ok (.iadd, 1) := by decide +kernel
theorem dL_law_977 : decode cL_law 977 = .ok (.iaload, 1) := by decide +kernel
theorem dL_law_978 : decode cL_law 978 = .ok (.aload_n 0, 1) := by decide +kernel
theorem dL_law_979 : decode cL_law 979 = .ok (.iload_n 3, 1) := by decide +kernel
theorem dL_law_980 : decode cL_law 980 = .ok (.iconst 3, 1) := by decide +kernel
theorem dL_law_981 : decode cL_law 981 = .ok (.iadd, 1) := by decide +kernel
theorem dL_law_982 : decode cL_law 982 = .ok (.iaload, 1) := by decide +kernel
theorem dL_law_983 : decode cL_law 983 = .ok (.aload_n 0, 1) := by decide +kernel
theorem dL_law_984 : decode cL_law 984 = .ok (.iload_n 3, 1) := by decide +kernel
theorem dL_law_985 : decode cL_law 985 = .ok (.iconst 4, 1) := by decide +kernel
theorem dL_law_986 : decode cL_law 986 = .ok (.iadd, 1) := by decide +kernel
theorem dL_law_987 : decode cL_law 987 = .ok (.iaload, 1) := by decide +kernel
theorem dL_law_988 : decode cL_law 988 = .ok (.invokevirtual 113, 3) := by decide +kernel
theorem dL_law_991 : decode cL_law 991 = .ok (.if_icmp .eq 683, 3) := by decide +kernel
theorem dL_law_994 : decode cL_law 994 = .ok (.iconst 0, 1) := by decide +kernel
theorem dL_law_995 : decode cL_law 995 = .ok (.ireturn, 1) := by decide +kernel
theorem dL_law_996 : decode cL_law 996 = .ok (.aload_n 1, 1) := by decide +kernel
theorem dL_law_997 : decode cL_law 997 = .ok (.aload_n 0, 1) := by decide +kernel
theorem dL_law_998 : decode cL_law 998 = .ok (.iload_n 3, 1) := by decide +kernel
theorem dL_law_999 : decode cL_law 999 = .ok (.iconst 1, 1) := by decide +kernel
theorem dL_law_1000 : decode cL_law 1000 = .ok (.iadd, 1) := by decide +kernel
theorem dL_law_1001 : decode cL_law 1001 = .ok (.iaload, 1) := by decide +kernel
theorem dL_law_1002 : decode cL_law 1002 = .ok (.aload_n 0, 1) := by decide +kernel
theorem dL_law_1003 : decode cL_law 1003 = .ok (.iload_n 3, 1) := by decide +kernel
theorem dL_law_1004 : decode cL_law 1004 = .ok (.iconst 2, 1) := by decide +kernel
theorem dL_law_1005 : decode cL_law 1005 = .ok (.iadd, 1) := by decide +kernel
theorem dL_law_1006 : decode cL_law 1006 = .ok (.iaload, 1) := by decide +kernel
theorem dL_law_1007 : decode cL_law 1007 = .ok (.invokevirtual 114, 3) := by decide +kernel
theorem dL_law_1010 : decode cL_law 1010 = .ok (.aload_n 2, 1) := by decide +kernel
theorem dL_law_1011 : decode cL_law 1011 = .ok (.aload_n 0, 1) := by decide +kernel
theorem dL_law_1012 : decode cL_law 1012 = .ok (.iload_n 3, 1) := by decide +kernel
theorem dL_law_1013 : decode cL_law 1013 = .ok (.iconst 1, 1) := by decide +kernel
theorem dL_law_1014 : decode cL_law 1014 = .ok (.iadd, 1) := by decide +kernel
theorem dL_law_1015 : decode cL_law 1015 = .ok (.iaload, 1) := by decide +kernel
theorem dL_law_1016 : decode cL_law 1016 = .ok (.aload_n 0, 1) := by decide +kernel
theorem dL_law_1017 : decode cL_law 1017 = .ok (.iload_n 3, 1) := by decide +kernel
theorem dL_law_1018 : decode cL_law 1018 = .ok (.iconst 2, 1) := by decide +kernel
theorem dL_law_1019 : decode cL_law 1019 = .ok (.iadd, 1) := by decide +kernel
theorem dL_law_1020 : decode cL_law 1020 = .ok (.iaload, 1) := by decide +kernel
theorem dL_law_1021 : decode cL_law 1021 = .ok (.invokevirtual 117, 3) := by decide +kernel
theorem dL_law_1024 : decode cL_law 1024 = .ok (.if_icmp .eq 650, 3) := by decide +kernel
theorem dL_law_1027 : decode cL_law 1027 = .ok (.iconst 0, 1) := by decide +kernel
theorem dL_law_1028 : decode cL_law 1028 = .ok (.ireturn, 1) := by decide +kernel
theorem dL_law_1029 : decode cL_law 1029 = .ok (.aload_n 1, 1) := by decide +kernel
theorem dL_law_1030 : decode cL_law 1030 = .ok (.aload_n 0, 1) := by decide +kernel
theorem dL_law_1031 : decode cL_law 1031 = .ok (.iload_n 3, 1) := by decide +kernel
theorem dL_law_1032 : decode cL_law 1032 = .ok (.iconst 1, 1) := by decide +kernel
theorem dL_law_1033 : decode cL_law 1033 = .ok (.iadd, 1) := by decide +kernel
theorem dL_law_1034 : decode cL_law 1034 = .ok (.iaload, 1) := by decide +kernel
theorem dL_law_1035 : decode cL_law 1035 = .ok (.invokevirtual 118, 3) := by decide +kernel
theorem dL_law_1038 : decode cL_law 1038 = .ok (.aload_n 2, 1) := by decide +kernel
theorem dL_law_1039 : decode cL_law 1039 = .ok (.aload_n 0, 1) := by decide +kernel
theorem dL_law_1040 : decode cL_law 1040 = .ok (.iload_n 3, 1) := by decide +kernel
theorem dL_law_1041 : decode cL_law 1041 = .ok (.iconst 1, 1) := by decide +kernel
theorem dL_law_1042 : decode cL_law 1042 = .ok (.iadd, 1) := by decide +kernel
theorem dL_law_1043 : decode cL_law 1043 = .ok (.iaload, 1) := by decide +kernel
theorem dL_law_1044 : decode cL_law 1044 = .ok (.invokevirtual 121, 3) := by decide +kernel
theorem dL_law_1047 : decode cL_law 1047 = .ok (.if_icmp .eq 627, 3) := by decide +kernel
theorem dL_law_1050 : decode cL_law 1050 = .ok (.iconst 0, 1) := by decide +kernel
theorem dL_law_1051 : decode cL_law 1051 = .ok (.ireturn, 1) := by decide +kernel
theorem dL_law_1052 : decode cL_law 1052 = .ok (.aload_n 1, 1) := by decide +kernel
theorem dL_law_1053 : decode cL_law 1053 = .ok (.aload_n 0, 1) := by decide +kernel
theorem dL_law_1054 : decode cL_law 1054 = .ok (.iload_n 3, 1) := by decide +kernel
theorem dL_law_1055 : decode cL_law 1055 = .ok (.iconst 1, 1) := by decide +kernel
theorem dL_law_1056 : decode cL_law 1056 = .ok (.iadd, 1) := by decide +kernel
theorem dL_law_1057 : decode cL_law 1057 = .ok (.iaload, 1) := by decide +kernel
theorem dL_law_1058 : decode cL_law 1058 = .ok (.invokevirtual 122, 3) := by decide +kernel
theorem dL_law_1061 : decode cL_law 1061 = .ok (.aload_n 2, 1) := by decide +kernel
theorem dL_law_1062 : decode cL_law 1062 = .ok (.aload_n 0, 1) := by decide +kernel
theorem dL_law_1063 : decode cL_law 1063 = .ok (.iload_n 3, 1) := by decide +kernel
theorem dL_law_1064 : decode cL_law 1064 = .ok (.iconst 1, 1) := by decide +kernel
theorem dL_law_1065 : decode cL_law 1065 = .ok (.iadd, 1) := by decide +kernel
theorem dL_law_1066 : decode cL_law 1066 = .ok (.iaload, 1) := by decide +kernel
theorem dL_law_1067 : decode cL_law 1067 = .ok (.invokevirtual 125, 3) := by decide +kernel
theorem dL_law_1070 : decode cL_law 1070 = .ok (.if_icmp .eq 604, 3) := by decide +kernel
theorem dL_law_1073 : decode cL_law 1073 = .ok (.iconst 0, 1) := by decide +kernel
theorem dL_law_1074 : decode cL_law 1074 = .ok (.ireturn, 1) := by decide +kernel
theorem dL_law_1075 : decode cL_law 1075 = .ok (.aload_n 1, 1) := by decide +kernel
theorem dL_law_1076 : decode cL_law 1076 = .ok (.aload_n 0, 1) := by decide +kernel
theorem dL_law_1077 : decode cL_law 1077 = .ok (.iload_n 3, 1) := by decide +kernel
theorem dL_law_1078 : decode cL_law 1078 = .ok (.iconst 1, 1) := by decide +kernel
theorem dL_law_1079 : decode cL_law 1079 = .ok (.iadd, 1) := by decide +kernel
theorem dL_law_1080 : decode cL_law 1080 = .ok (.iaload, 1) := by decide +kernel
theorem dL_law_1081 : decode cL_law 1081 = .ok (.invokevirtual 126, 3) := by decide +kernel
theorem dL_law_1084 : decode cL_law 1084 = .ok (.aload_n 2, 1) := by decide +kernel
theorem dL_law_1085 : decode cL_law 1085 = .ok (.aload_n 0, 1) := by decide +kernel
theorem dL_law_1086 : decode cL_law 1086 = .ok (.iload_n 3, 1) := by decide +kernel
theorem dL_law_1087 : decode cL_law 1087 = .ok (.iconst 1, 1) := by decide +kernel
theorem dL_law_1088 : decode cL_law 1088 = .ok (.iadd, 1) := by decide +kernel
theorem dL_law_1089 : decode cL_law 1089 = .ok (.iaload, 1) := by decide +kernel
theorem dL_law_1090 : decode cL_law 1090 = .ok (.invokevirtual 129, 3) := by decide +kernel
theorem dL_law_1093 : decode cL_law 1093 = .ok (.if_icmp .eq 581, 3) := by decide +kernel
theorem dL_law_1096 : decode cL_law 1096 = .ok (.iconst 0, 1) := by decide +kernel
theorem dL_law_1097 : decode cL_law 1097 = .ok (.ireturn, 1) := by decide +kernel
theorem dL_law_1098 : decode cL_law 1098 = .ok (.aload_n 1, 1) := by decide +kernel
theorem dL_law_1099 : decode cL_law 1099 = .ok (.aload_n 0, 1) := by decide +kernel
theorem dL_law_1100 : decode cL_law 1100 = .ok (.iload_n 3, 1) := by decide +kernel
theorem dL_law_1101 : decode cL_law 1101 = .ok (.iconst 1, 1) := by decide +kernel
theorem dL_law_1102 : decode cL_law 1102 = .ok (.iadd, 1) := by decide +kernel
theorem dL_law_1103 : decode cL_law 1103 = .ok (.iaload, 1) := by decide +kernel
theorem dL_law_1104 : decode cL_law 1104 = .ok (.aload_n 0, 1) := by decide +kernel
theorem dL_law_1105 : decode cL_law 1105 = .ok (.iload_n 3, 1) := by decide +kernel
theorem dL_law_1106 : decode cL_law 1106 = .ok (.iconst 2, 1) := by decide +kernel
theorem dL_law_1107 : decode cL_law 1107 = .ok (.iadd, 1) := by decide +kernel
theorem dL_law_1108 : decode cL_law 1108 = .ok (.iaload, 1) := by decide +kernel
theorem dL_law_1109 : decode cL_law 1109 = .ok (.invokevirtual 130, 3) := by decide +kernel
theorem dL_law_1112 : decode cL_law 1112 = .ok (.aload_n 2, 1) := by decide +kernel
theorem dL_law_1113 : decode cL_law 1113 = .ok (.aload_n 0, 1) := by decide +kernel
theorem dL_law_1114 : decode cL_law 1114 = .ok (.iload_n 3, 1) := by decide +kernel
theorem dL_law_1115 : decode cL_law 1115 = .ok (.iconst 1, 1) := by decide +kernel
theorem dL_law_1116 : decode cL_law 1116 = .ok (.iadd, 1) := by decide +kernel
theorem dL_law_1117 : decode cL_law 1117 = .ok (.iaload, 1) := by decide +kernel
theorem dL_law_1118 : decode cL_law 1118 = .ok (.aload_n 0, 1) := by decide +kernel
theorem dL_law_1119 : decode cL_law 1119 = .ok (.iload_n 3, 1) := by decide +kernel
theorem dL_law_1120 : decode cL_law 1120 = .ok (.iconst 2, 1) := by decide +kernel
theorem dL_law_1121 : decode cL_law 1121 = .ok (.iadd, 1) := by decide +kernel
theorem dL_law_1122 : decode cL_law 1122 = .ok (.iaload, 1) := by decide +kernel
theorem dL_law_1123 : decode cL_law 1123 = .ok (.invokevirtual 133, 3) := by decide +kernel
theorem dL_law_1126 : decode cL_law 1126 = .ok (.if_icmp .eq 548, 3) := by decide +kernel
theorem dL_law_1129 : decode cL_law 1129 = .ok (.iconst 0, 1) := by decide +kernel
theorem dL_law_1130 : decode cL_law 1130 = .ok (.ireturn, 1) := by decide +kernel
theorem dL_law_1131 : decode cL_law 1131 = .ok (.aload_n 1, 1) := by decide +kernel
theorem dL_law_1132 : decode cL_law 1132 = .ok (.aload_n 0, 1) := by decide +kernel
theorem dL_law_1133 : decode cL_law 1133 = .ok (.iload_n 3, 1) := by decide +kernel
theorem dL_law_1134 : decode cL_law 1134 = .ok (.iconst 1, 1) := by decide +kernel
theorem dL_law_1135 : decode cL_law 1135 = .ok (.iadd, 1) := by decide +kernel
theorem dL_law_1136 : decode cL_law 1136 = .ok (.iaload, 1) := by decide +kernel
theorem dL_law_1137 : decode cL_law 1137 = .ok (.invokevirtual 134, 3) := by decide +kernel
theorem dL_law_1140 : decode cL_law 1140 = .ok (.aload_n 2, 1) := by decide +kernel
theorem dL_law_1141 : decode cL_law 1141 = .ok (.aload_n 0, 1) := by decide +kernel
theorem dL_law_1142 : decode cL_law 1142 = .ok (.iload_n 3, 1) := by decide +kernel
theorem dL_law_1143 : decode cL_law 1143 = .ok (.iconst 1, 1) := by decide +kernel
theorem dL_law_1144 : decode cL_law 1144 = .ok (.iadd, 1) := by decide +kernel
theorem dL_law_1145 : decode cL_law 1145 = .ok (.iaload, 1) := by decide +kernel
theorem dL_law_1146 : decode cL_law 1146 = .ok (.invokevirtual 137, 3) := by decide +kernel
theorem dL_law_1149 : decode cL_law 1149 = .ok (.if_icmp .eq 525, 3) := by decide +kernel
theorem dL_law_1152 : decode cL_law 1152 = .ok (.iconst 0, 1) := by decide +kernel
theorem dL_law_1153 : decode cL_law 1153 = .ok (.ireturn, 1) := by decide +kernel
theorem dL_law_1154 : decode cL_law 1154 = .ok (.aload_n 1, 1) := by decide +kernel
theorem dL_law_1155 : decode cL_law 1155 = .ok (.aload_n 0, 1) := by decide +kernel
theorem dL_law_1156 : decode cL_law 1156 = .ok (.iload_n 3, 1) := by decide +kernel
theorem dL_law_1157 : decode cL_law 1157 = .ok (.iconst 1, 1) := by decide +kernel
theorem dL_law_1158 : decode cL_law 1158 = .ok (.iadd, 1) := by decide +kernel
theorem dL_law_1159 : decode cL_law 1159 = .ok (.iaload, 1) := by decide +kernel
theorem dL_law_1160 : decode cL_law 1160 = .ok (.aload_n 0, 1) := by decide +kernel
theorem dL_law_1161 : decode cL_law 1161 = .ok (.iload_n 3, 1) := by decide +kernel
theorem dL_law_1162 : decode cL_law 1162 = .ok (.iconst 2, 1) := by decide +kernel
theorem dL_law_1163 : decode cL_law 1163 = .ok (.iadd, 1) := by decide +kernel
theorem dL_law_1164 : decode cL_law 1164 = .ok (.iaload, 1) := by decide +kernel
theorem dL_law_1165 : decode cL_law 1165 = .ok (.invokevirtual 138, 3) := by decide +kernel
theorem dL_law_1168 : decode cL_law 1168 = .ok (.aload_n 2, 1) := by decide +kernel
theorem dL_law_1169 : decode cL_law 1169 = .ok (.aload_n 0, 1) := by decide +kernel
theorem dL_law_1170 : decode cL_law 1170 = .ok (.iload_n 3, 1) := by decide +kernel
theorem dL_law_1171 : decode cL_law 1171 = .ok (.iconst 1, 1) := by decide +kernel
theorem dL_law_1172 : decode cL_law 1172 = .ok (.iadd, 1) := by decide +kernel
theorem dL_law_1173 : decode cL_law 1173 = .ok (.iaload, 1) := by decide +kernel
theorem dL_law_1174 : decode cL_law 1174 = .ok (.aload_n 0, 1) := by decide +kernel
theorem dL_law_1175 : decode cL_law 1175 = .ok (.iload_n 3, 1) := by decide +kernel
theorem dL_law_1176 : decode cL_law 1176 = .ok (.iconst 2, 1) := by decide +kernel
theorem dL_law_1177 : decode cL_law 1177 = .ok (.iadd, 1) := by decide +kernel
theorem dL_law_1178 : decode cL_law 1178 = .ok (.iaload, 1) := by decide +kernel
theorem dL_law_1179 : decode cL_law 1179 = .ok (.invokevirtual 141, 3) := by decide +kernel
theorem dL_law_1182 : decode cL_law 1182 = .ok (.if_icmp .eq 492, 3) := by decide +kernel
theorem dL_law_1185 : decode cL_law 1185 = .ok (.iconst 0, 1) := by decide +kernel
theorem dL_law_1186 : decode cL_law 1186 = .ok (.ireturn, 1) := by decide +kernel
theorem dL_law_1187 : decode cL_law 1187 = .ok (.aload_n 1, 1) := by decide +kernel
theorem dL_law_1188 : decode cL_law 1188 = .ok (.invokevirtual 142, 3) := by decide +kernel
theorem dL_law_1191 : decode cL_law 1191 = .ok (.aload_n 2, 1) := by decide +kernel
theorem dL_law_1192 : decode cL_law 1192 = .ok (.invokevirtual 146, 3) := by decide +kernel
theorem dL_law_1195 : decode cL_law 1195 = .ok (.if_icmp .eq 479, 3) := by decide +kernel
theorem dL_law_1198 : decode cL_law 1198 = .ok (.iconst 0, 1) := by decide +kernel
theorem dL_law_1199 : decode cL_law 1199 = .ok (.ireturn, 1) := by decide +kernel
theorem dL_law_1200 : decode cL_law 1200 = .ok (.aload_n 1, 1) := by decide +kernel
theorem dL_law_1201 : decode cL_law 1201 = .ok (.aload_n 0, 1) := by decide +kernel
theorem dL_law_1202 : decode cL_law 1202 = .ok (.iload_n 3, 1) := by decide +kernel
theorem dL_law_1203 : decode cL_law 1203 = .ok (.iconst 1, 1) := by decide +kernel
theorem dL_law_1204 : decode cL_law 1204 = .ok (.iadd, 1) := by decide +kernel
theorem dL_law_1205 : decode cL_law 1205 = .ok (.iaload, 1) := by decide +kernel
theorem dL_law_1206 : decode cL_law 1206 = .ok (.invokevirtual 147, 3) := by decide +kernel
theorem dL_law_1209 : decode cL_law 1209 = .ok (.aload_n 2, 1) := by decide +kernel
theorem dL_law_1210 : decode cL_law 1210 = .ok (.aload_n 0, 1) := by decide +kernel
theorem dL_law_1211 : decode cL_law 1211 = .ok (.iload_n 3, 1) := by decide +kernel
theorem dL_law_1212 : decode cL_law 1212 = .ok (.iconst 1, 1) := by decide +kernel
theorem dL_law_1213 : decode cL_law 1213 = .ok (.iadd, 1) := by decide +kernel
theorem dL_law_1214 : decode cL_law 1214 = .ok (.iaload, 1) := by decide +kernel
theorem dL_law_1215 : decode cL_law 1215 = .ok (.invokevirtual 150, 3) := by decide +kernel
theorem dL_law_1218 : decode cL_law 1218 = .ok (.if_icmp .eq 456, 3) := by decide +kernel
theorem dL_law_1221 : decode cL_law 1221 = .ok (.iconst 0, 1) := by decide +kernel
theorem dL_law_1222 : decode cL_law 1222 = .ok (.ireturn, 1) := by decide +kernel
theorem dL_law_1223 : decode cL_law 1223 = .ok (.aload_n 1, 1) := by decide +kernel
theorem dL_law_1224 : decode cL_law 1224 = .ok (.aload_n 0, 1) := by decide +kernel
theorem dL_law_1225 : decode cL_law 1225 = .ok (.iload_n 3, 1) := by decide +kernel
theorem dL_law_1226 : decode cL_law 1226 = .ok (.iconst 1, 1) := by decide +kernel
theorem dL_law_1227 : decode cL_law 1227 = .ok (.iadd, 1) := by decide +kernel
theorem dL_law_1228 : decode cL_law 1228 = .ok (.iaload, 1) := by decide +kernel
theorem dL_law_1229 : decode cL_law 1229 = .ok (.aload_n 0, 1) := by decide +kernel
theorem dL_law_1230 : decode cL_law 1230 = .ok (.iload_n 3, 1) := by decide +kernel
theorem dL_law_1231 : decode cL_law 1231 = .ok (.iconst 2, 1) := by decide +kernel
theorem dL_law_1232 : decode cL_law 1232 = .ok (.iadd, 1) := by decide +kernel
theorem dL_law_1233 : decode cL_law 1233 = .ok (.iaload, 1) := by decide +kernel
theorem dL_law_1234 : decode cL_law 1234 = .ok (.invokevirtual 151, 3) := by decide +kernel
theorem dL_law_1237 : decode cL_law 1237 = .ok (.aload_n 2, 1) := by decide +kernel
theorem dL_law_1238 : decode cL_law 1238 = .ok (.aload_n 0, 1) := by decide +kernel
theorem dL_law_1239 : decode cL_law 1239 = .ok (.iload_n 3, 1) := by decide +kernel
theorem dL_law_1240 : decode cL_law 1240 = .ok (.iconst 1, 1) := by decide +kernel
theorem dL_law_1241 : decode cL_law 1241 = .ok (.iadd, 1) := by decide +kernel
theorem dL_law_1242 : decode cL_law 1242 = .ok (.iaload, 1) := by decide +kernel
theorem dL_law_1243 : decode cL_law 1243 = .ok (.aload_n 0, 1) := by decide +kernel
theorem dL_law_1244 : decode cL_law 1244 = .ok (.iload_n 3, 1) := by decide +kernel
theorem dL_law_1245 : decode cL_law 1245 = .ok (.iconst 2, 1) := by decide +kernel
theorem dL_law_1246 : decode cL_law 1246 = .ok (.iadd, 1) := by decide +kernel
theorem dL_law_1247 : decode cL_law 1247 = .ok (.iaload, 1) := by decide +kernel
theorem dL_law_1248 : decode cL_law 1248 = .ok (.invokevirtual 154, 3) := by decide +kernel
theorem dL_law_1251 : decode cL_law 1251 = .ok (.if_icmp .eq 423, 3) := by decide +kernel
theorem dL_law_1254 : decode cL_law 1254 = .ok (.iconst 0, 1) := by decide +kernel
theorem dL_law_1255 : decode cL_law 1255 = .ok (.ireturn, 1) := by decide +kernel
theorem dL_law_1256 : decode cL_law 1256 = .ok (.aload_n 1, 1) := by decide +kernel
theorem dL_law_1257 : decode cL_law 1257 = .ok (.aload_n 0, 1) := by decide +kernel
theorem dL_law_1258 : decode cL_law 1258 = .ok (.iload_n 3, 1) := by decide +kernel
theorem dL_law_1259 : decode cL_law 1259 = .ok (.iconst 1, 1) := by decide +kernel
theorem dL_law_1260 : decode cL_law 1260 = .ok (.iadd, 1) := by decide +kernel
theorem dL_law_1261 : decode cL_law 1261 = .ok (.iaload, 1) := by decide +kernel
theorem dL_law_1262 : decode cL_law 1262 = .ok (.aload_n 0, 1) := by decide +kernel
theorem dL_law_1263 : decode cL_law 1263 = .ok (.iload_n 3, 1) := by decide +kernel
theorem dL_law_1264 : decode cL_law 1264 = .ok (.iconst 2, 1) := by decide +kernel
theorem dL_law_1265 : decode cL_law 1265 = .ok (.iadd, 1) := by decide +kernel
theorem dL_law_1266 : decode cL_law 1266 = .ok (.iaload, 1) := by decide +kernel
theorem dL_law_1267 : decode cL_law 1267 = .ok (.invokevirtual 155, 3) := by decide +kernel
theorem dL_law_1270 : decode cL_law 1270 = .ok (.aload_n 2, 1) := by decide +kernel
theorem dL_law_1271 : decode cL_law 1271 = .ok (.aload_n 0, 1) := by decide +kernel
theorem dL_law_1272 : decode cL_law 1272 = .ok (.iload_n 3, 1) := by decide +kernel
theorem dL_law_1273 : decode cL_law 1273 = .ok (.iconst 1, 1) := by decide +kernel
theorem dL_law_1274 : decode cL_law 1274 = .ok (.iadd, 1) := by decide +kernel
theorem dL_law_1275 : decode cL_law 1275 = .ok (.iaload, 1) := by decide +kernel
theorem dL_law_1276 : decode cL_law 1276 = .ok (.aload_n 0, 1) := by decide +kernel
theorem dL_law_1277 : decode cL_law 1277 = .ok (.iload_n 3, 1) := by decide +kernel
theorem dL_law_1278 : decode cL_law 1278 = .ok (.iconst 2, 1) := by decide +kernel
theorem dL_law_1279 : decode cL_law 1279 = .ok (.iadd, 1) := by decide +kernel
theorem dL_law_1280 : decode cL_law 1280 = .ok (.iaload, 1) := by decide +kernel
theorem dL_law_1281 : decode cL_law 1281 = .ok (.invokevirtual 158, 3) := by decide +kernel
theorem dL_law_1284 : decode cL_law 1284 = .ok (.if_icmp .eq 390, 3) := by decide +kernel
theorem dL_law_1287 : decode cL_law 1287 = .ok (.iconst 0, 1) := by decide +kernel
theorem dL_law_1288 : decode cL_law 1288 = .ok (.ireturn, 1) := by decide +kernel
theorem dL_law_1289 : decode cL_law 1289 = .ok (.aload_n 1, 1) := by decide +kernel
theorem dL_law_1290 : decode cL_law 1290 = .ok (.aload_n 0, 1) := by decide +kernel
theorem dL_law_1291 : decode cL_law 1291 = .ok (.iload_n 3, 1) := by decide +kernel
theorem dL_law_1292 : decode cL_law 1292 = .ok (.iconst 1, 1) := by decide +kernel
theorem dL_law_1293 : decode cL_law 1293 = .ok (.iadd, 1) := by decide +kernel
theorem dL_law_1294 : decode cL_law 1294 = .ok (.iaload, 1) := by decide +kernel
theorem dL_law_1295 : decode cL_law 1295 = .ok (.aload_n 0, 1) := by decide +kernel
theorem dL_law_1296 : decode cL_law 1296 = .ok (.iload_n 3, 1) := by decide +kernel
theorem dL_law_1297 : decode cL_law 1297 = .ok (.iconst 2, 1) := by decide +kernel
theorem dL_law_1298 : decode cL_law 1298 = .ok (.iadd, 1) := by decide +kernel
theorem dL_law_1299 : decode cL_law 1299 = .ok (.iaload, 1) := by decide +kernel
theorem dL_law_1300 : decode cL_law 1300 = .ok (.invokevirtual 159, 3) := by decide +kernel
theorem dL_law_1303 : decode cL_law 1303 = .ok (.aload_n 2, 1) := by decide +kernel
theorem dL_law_1304 : decode cL_law 1304 = .ok (.aload_n 0, 1) := by decide +kernel
theorem dL_law_1305 : decode cL_law 1305 = .ok (.iload_n 3, 1) := by decide +kernel
theorem dL_law_1306 : decode cL_law 1306 = .ok (.iconst 1, 1) := by decide +kernel
theorem dL_law_1307 : decode cL_law 1307 = .ok (.iadd, 1) := by decide +kernel
theorem dL_law_1308 : decode cL_law 1308 = .ok (.iaload, 1) := by decide +kernel
theorem dL_law_1309 : decode cL_law 1309 = .ok (.aload_n 0, 1) := by decide +kernel
theorem dL_law_1310 : decode cL_law 1310 = .ok (.iload_n 3, 1) := by decide +kernel
theorem dL_law_1311 : decode cL_law 1311 = .ok (.iconst 2, 1) := by decide +kernel
theorem dL_law_1312 : decode cL_law 1312 = .ok (.iadd, 1) := by decide +kernel
theorem dL_law_1313 : decode cL_law 1313 = .ok (.iaload, 1) := by decide +kernel
theorem dL_law_1314 : decode cL_law 1314 = .ok (.invokevirtual 162, 3) := by decide +kernel
theorem dL_law_1317 : decode cL_law 1317 = .ok (.if_icmp .eq 357, 3) := by decide +kernel
theorem dL_law_1320 : decode cL_law 1320 = .ok (.iconst 0, 1) := by decide +kernel
theorem dL_law_1321 : decode cL_law 1321 = .ok (.ireturn, 1) := by decide +kernel
theorem dL_law_1322 : decode cL_law 1322 = .ok (.aload_n 1, 1) := by decide +kernel
theorem dL_law_1323 : decode cL_law 1323 = .ok (.aload_n 0, 1) := by decide +kernel
theorem dL_law_1324 : decode cL_law 1324 = .ok (.iload_n 3, 1) := by decide +kernel
theorem dL_law_1325 : decode cL_law 1325 = .ok (.iconst 1, 1) := by decide +kernel
theorem dL_law_1326 : decode cL_law 1326 = .ok (.iadd, 1) := by decide +kernel
theorem dL_law_1327 : decode cL_law 1327 = .ok (.iaload, 1) := by decide +kernel
theorem dL_law_1328 : decode cL_law 1328 = .ok (.aload_n 0, 1) := by decide +kernel
theorem dL_law_1329 : decode cL_law 1329 = .ok (.iload_n 3, 1) := by decide +kernel
theorem dL_law_1330 : decode cL_law 1330 = .ok (.iconst 2, 1) := by decide +kernel
theorem dL_law_1331 : decode cL_law 1331 = .ok (.iadd, 1) := by decide +kernel
theorem dL_law_1332 : decode cL_law 1332 = .ok (.iaload, 1) := by decide +kernel
theorem dL_law_1333 : decode cL_law 1333 = .ok (.invokevirtual 163, 3) := by decide +kernel
theorem dL_law_1336 : decode cL_law 1336 = .ok (.aload_n 2, 1) := by decide +kernel
theorem dL_law_1337 : decode cL_law 1337 = .ok (.aload_n 0, 1) := by decide +kernel
theorem dL_law_1338 : decode cL_law 1338 = .ok (.iload_n 3, 1) := by decide +kernel
theorem dL_law_1339 : decode cL_law 1339 = .ok (.iconst 1, 1) := by decide +kernel
theorem dL_law_1340 : decode cL_law 1340 = .ok (.iadd, 1) := by decide +kernel
theorem dL_law_1341 : decode cL_law 1341 = .ok (.iaload, 1) := by decide +kernel
theorem dL_law_1342 : decode cL_law 1342 = .ok (.aload_n 0, 1) := by decide +kernel
theorem dL_law_1343 : decode cL_law 1343 = .ok (.iload_n 3, 1) := by decide +kernel
theorem dL_law_1344 : decode cL_law 1344 = .ok (.iconst 2, 1) := by decide +kernel
theorem dL_law_1345 : decode cL_law 1345 = .ok (.iadd, 1) := by decide +kernel
theorem dL_law_1346 : decode cL_law 1346 = .ok (.iaload, 1) := by decide +kernel
theorem dL_law_1347 : decode cL_law 1347 = .ok (.invokevirtual 166, 3) := by decide +kernel
theorem dL_law_1350 : decode cL_law 1350 = .ok (.if_icmp .eq 324, 3) := by decide +kernel
theorem dL_law_1353 : decode cL_law 1353 = .ok (.iconst 0, 1) := by decide +kernel
theorem dL_law_1354 : decode cL_law 1354 = .ok (.ireturn, 1) := by decide +kernel
theorem dL_law_1355 : decode cL_law 1355 = .ok (.aload_n 1, 1) := by decide +kernel
theorem dL_law_1356 : decode cL_law 1356 = .ok (.aload_n 0, 1) := by decide +kernel
theorem dL_law_1357 : decode cL_law 1357 = .ok (.iload_n 3, 1) := by decide +kernel
theorem dL_law_1358 : decode cL_law 1358 = .ok (.iconst 1, 1) := by decide +kernel
theorem dL_law_1359 : decode cL_law 1359 = .ok (.iadd, 1) := by decide +kernel
theorem dL_law_1360 : decode cL_law 1360 = .ok (.iaload, 1) := by decide +kernel
theorem dL_law_1361 : decode cL_law 1361 = .ok (.aload_n 0, 1) := by decide +kernel
theorem dL_law_1362 : decode cL_law 1362 = .ok (.iload_n 3, 1) := by decide +kernel
theorem dL_law_1363 : decode cL_law 1363 = .ok (.iconst 2, 1) := by decide +kernel
theorem dL_law_1364 : decode cL_law 1364 = .ok (.iadd, 1) := by decide +kernel
theorem dL_law_1365 : decode cL_law 1365 = .ok (.iaload, 1) := by decide +kernel
theorem dL_law_1366 : decode cL_law 1366 = .ok (.invokevirtual 167, 3) := by decide +kernel
theorem dL_law_1369 : decode cL_law 1369 = .ok (.aload_n 2, 1) := by decide +kernel
theorem dL_law_1370 : decode cL_law 1370 = .ok (.aload_n 0, 1) := by decide +kernel
theorem dL_law_1371 : decode cL_law 1371 = .ok (.iload_n 3, 1) := by decide +kernel
theorem dL_law_1372 : decode cL_law 1372 = .ok (.iconst 1, 1) := by decide +kernel
theorem dL_law_1373 : decode cL_law 1373 = .ok (.iadd, 1) := by decide +kernel
theorem dL_law_1374 : decode cL_law 1374 = .ok (.iaload, 1) := by decide +kernel
theorem dL_law_1375 : decode cL_law 1375 = .ok (.aload_n 0, 1) := by decide +kernel
theorem dL_law_1376 : decode cL_law 1376 = .ok (.iload_n 3, 1) := by decide +kernel
theorem dL_law_1377 : decode cL_law 1377 = .ok (.iconst 2, 1) := by decide +kernel
theorem dL_law_1378 : decode cL_law 1378 = .ok (.iadd, 1) := by decide +kernel
theorem dL_law_1379 : decode cL_law 1379 = .ok (.iaload, 1) := by decide +kernel
theorem dL_law_1380 : decode cL_law 1380 = .ok (.invokevirtual 170, 3) := by decide +kernel
theorem dL_law_1383 : decode cL_law 1383 = .ok (.if_icmp .eq 291, 3) := by decide +kernel
theorem dL_law_1386 : decode cL_law 1386 = .ok (.iconst 0, 1) := by decide +kernel
theorem dL_law_1387 : decode cL_law 1387 = .ok (.ireturn, 1) := by decide +kernel
theorem dL_law_1388 : decode cL_law 1388 = .ok (.aload_n 1, 1) := by decide +kernel
theorem dL_law_1389 : decode cL_law 1389 = .ok (.aload_n 0, 1) := by decide +kernel
theorem dL_law_1390 : decode cL_law 1390 = .ok (.iload_n 3, 1) := by decide +kernel
theorem dL_law_1391 : decode cL_law 1391 = .ok (.iconst 1, 1) := by decide +kernel
theorem dL_law_1392 : decode cL_law 1392 = .ok (.iadd, 1) := by decide +kernel
theorem dL_law_1393 : decode cL_law 1393 = .ok (.iaload, 1) := by decide +kernel
theorem dL_law_1394 : decode cL_law 1394 = .ok (.aload_n 0, 1) := by decide +kernel
theorem dL_law_1395 : decode cL_law 1395 = .ok (.iload_n 3, 1) := by decide +kernel
theorem dL_law_1396 : decode cL_law 1396 = .ok (.iconst 2, 1) := by decide +kernel
theorem dL_law_1397 : decode cL_law 1397 = .ok (.iadd, 1) := by decide +kernel
theorem dL_law_1398 : decode cL_law 1398 = .ok (.iaload, 1) := by decide +kernel
theorem dL_law_1399 : decode cL_law 1399 = .ok (.invokevirtual 171, 3) := by decide +kernel
theorem dL_law_1402 : decode cL_law 1402 = .ok (.aload_n 2, 1) := by decide +kernel
theorem dL_law_1403 : decode cL_law 1403 = .ok (.aload_n 0, 1) := by decide +kernel
theorem dL_law_1404 : decode cL_law 1404 = .ok (.iload_n 3, 1) := by decide +kernel
theorem dL_law_1405 : decode cL_law 1405 = .ok (.iconst 1, 1) := by decide +kernel
theorem dL_law_1406 : decode cL_law 1406 = .ok (.iadd, 1) := by decide +kernel
theorem dL_law_1407 : decode cL_law 1407 = .ok (.iaload, 1) := by decide +kernel
theorem dL_law_1408 : decode cL_law 1408 = .ok (.aload_n 0, 1) := by decide +kernel
theorem dL_law_1409 : decode cL_law 1409 = .ok (.iload_n 3, 1) := by decide +kernel
theorem dL_law_1410 : decode cL_law 1410 = .ok (.iconst 2, 1) := by decide +kernel
theorem dL_law_1411 : decode cL_law 1411 = .ok (.iadd, 1) := by decide +kernel
theorem dL_law_1412 : decode cL_law 1412 = .ok (.iaload, 1) := by decide +kernel
theorem dL_law_1413 : decode cL_law 1413 = .ok (.invokevirtual 174, 3) := by decide +kernel
theorem dL_law_1416 : decode cL_law 1416 = .ok (.if_icmp .eq 258, 3) := by decide +kernel
theorem dL_law_1419 : decode cL_law 1419 = .ok (.iconst 0, 1) := by decide +kernel
theorem dL_law_1420 : decode cL_law 1420 = .ok (.ireturn, 1) := by decide +kernel
theorem dL_law_1421 : decode cL_law 1421 = .ok (.aload_n 1, 1) := by decide +kernel
theorem dL_law_1422 : decode cL_law 1422 = .ok (.aload_n 0, 1) := by decide +kernel
theorem dL_law_1423 : decode cL_law 1423 = .ok (.iload_n 3, 1) := by decide +kernel
theorem dL_law_1424 : decode cL_law 1424 = .ok (.iconst 1, 1) := by decide +kernel
theorem dL_law_1425 : decode cL_law 1425 = .ok (.iadd, 1) := by decide +kernel
theorem dL_law_1426 : decode cL_law 1426 = .ok (.iaload, 1) := by decide +kernel
theorem dL_law_1427 : decode cL_law 1427 = .ok (.aload_n 0, 1) := by decide +kernel
theorem dL_law_1428 : decode cL_law 1428 = .ok (.iload_n 3, 1) := by decide +kernel
theorem dL_law_1429 : decode cL_law 1429 = .ok (.iconst 2, 1) := by decide +kernel
theorem dL_law_1430 : decode cL_law 1430 = .ok (.iadd, 1) := by decide +kernel
theorem dL_law_1431 : decode cL_law 1431 = .ok (.iaload, 1) := by decide +kernel
theorem dL_law_1432 : decode cL_law 1432 = .ok (.aload_n 0, 1) := by decide +kernel
theorem dL_law_1433 : decode cL_law 1433 = .ok (.iload_n 3, 1) := by decide +kernel
theorem dL_law_1434 : decode cL_law 1434 = .ok (.iconst 3, 1) := by decide +kernel
theorem dL_law_1435 : decode cL_law 1435 = .ok (.iadd, 1) := by decide +kernel
theorem dL_law_1436 : decode cL_law 1436 = .ok (.iaload, 1) := by decide +kernel
theorem dL_law_1437 : decode cL_law 1437 = .ok (.aload_n 0, 1) := by decide +kernel
theorem dL_law_1438 : decode cL_law 1438 = .ok (.iload_n 3, 1) := by decide +kernel
theorem dL_law_1439 : decode cL_law 1439 = .ok (.iconst 4, 1) := by decide +kernel
theorem dL_law_1440 : decode cL_law 1440 = .ok (.iadd, 1) := by decide +kernel
theorem dL_law_1441 : decode cL_law 1441 = .ok (.iaload, 1) := by decide +kernel
theorem dL_law_1442 : decode cL_law 1442 = .ok (.invokevirtual 175, 3) := by decide +kernel
theorem dL_law_1445 : decode cL_law 1445 = .ok (.aload_n 2, 1) := by decide +kernel
theorem dL_law_1446 : decode cL_law 1446 = .ok (.aload_n 0, 1) := by decide +kernel
theorem dL_law_1447 : decode cL_law 1447 = .ok (.iload_n 3, 1) := by decide +kernel
theorem dL_law_1448 : decode cL_law 1448 = .ok (.iconst 1, 1) := by decide +kernel
theorem dL_law_1449 : decode cL_law 1449 = .ok (.iadd, 1) := by decide +kernel
theorem dL_law_1450 : decode cL_law 1450 = .ok (.iaload, 1) := by decide +kernel
theorem dL_law_1451 : decode cL_law 1451 = .ok (.aload_n 0, 1) := by decide +kernel
theorem dL_law_1452 : decode cL_law 1452 = .ok (.iload_n 3, 1) := by decide +kernel
theorem dL_law_1453 : decode cL_law 1453 = .ok (.iconst 2, 1) := by decide +kernel
theorem dL_law_1454 : decode cL_law 1454 = .ok (.iadd, 1) := by decide +kernel
theorem dL_law_1455 : decode cL_law 1455 = .ok (.iaload, 1) := by decide +kernel
theorem dL_law_1456 : decode cL_law 1456 = .ok (.aload_n 0, 1) := by decide +kernel
theorem dL_law_1457 : decode cL_law 1457 = .ok (.iload_n 3, 1) := by decide +kernel
theorem dL_law_1458 : decode cL_law 1458 = .ok (.iconst 3, 1) := by decide +kernel
theorem dL_law_1459 : decode cL_law 1459 = .ok (.iadd, 1) := by decide +kernel
theorem dL_law_1460 : decode cL_law 1460 = .ok (.iaload, 1) := by decide +kernel
theorem dL_law_1461 : decode cL_law 1461 = .ok (.aload_n 0, 1) := by decide +kernel
theorem dL_law_1462 : decode cL_law 1462 = .ok (.iload_n 3, 1) := by decide +kernel
theorem dL_law_1463 : decode cL_law 1463 = .ok (.iconst 4, 1) := by decide +kernel
theorem dL_law_1464 : decode cL_law 1464 = .ok (.iadd, 1) := by decide +kernel
theorem dL_law_1465 : decode cL_law 1465 = .ok (.iaload, 1) := by decide +kernel
theorem dL_law_1466 : decode cL_law 1466 = .ok (.invokevirtual 178, 3) := by decide +kernel
theorem dL_law_1469 : decode cL_law 1469 = .ok (.if_icmp .eq 205, 3) := by decide +kernel
theorem dL_law_1472 : decode cL_law 1472 = .ok (.iconst 0, 1) := by decide +kernel
theorem dL_law_1473 : decode cL_law 1473 = .ok (.ireturn, 1) := by decide +kernel
theorem dL_law_1474 : decode cL_law 1474 = .ok (.aload_n 1, 1) := by decide +kernel
theorem dL_law_1475 : decode cL_law 1475 = .ok (.aload_n 0, 1) := by decide +kernel
theorem dL_law_1476 : decode cL_law 1476 = .ok (.iload_n 3, 1) := by decide +kernel
theorem dL_law_1477 : decode cL_law 1477 = .ok (.iconst 1, 1) := by decide +kernel
theorem dL_law_1478 : decode cL_law 1478 = .ok (.iadd, 1) := by decide +kernel
theorem dL_law_1479 : decode cL_law 1479 = .ok (.iaload, 1) := by decide +kernel
theorem dL_law_1480 : decode cL_law 1480 = .ok (.aload_n 0, 1) := by decide +kernel
theorem dL_law_1481 : decode cL_law 1481 = .ok (.iload_n 3, 1) := by decide +kernel
theorem dL_law_1482 : decode cL_law 1482 = .ok (.iconst 2, 1) := by decide +kernel
theorem dL_law_1483 : decode cL_law 1483 = .ok (.iadd, 1) := by decide +kernel
theorem dL_law_1484 : decode cL_law 1484 = .ok (.iaload, 1) := by decide +kernel
theorem dL_law_1485 : decode cL_law 1485 = .ok (.aload_n 0, 1) := by decide +kernel
theorem dL_law_1486 : decode cL_law 1486 = .ok (.iload_n 3, 1) := by decide +kernel
theorem dL_law_1487 : decode cL_law 1487 = .ok (.iconst 3, 1) := by decide +kernel
theorem dL_law_1488 : decode cL_law 1488 = .ok (.iadd, 1) := by decide +kernel
theorem dL_law_1489 : decode cL_law 1489 = .ok (.iaload, 1) := by decide +kernel
theorem dL_law_1490 : decode cL_law 1490 = .ok (.aload_n 0, 1) := by decide +kernel
theorem dL_law_1491 : decode cL_law 1491 = .ok (.iload_n 3, 1) := by decide +kernel
theorem dL_law_1492 : decode cL_law 1492 = .ok (.iconst 4, 1) := by decide +kernel
theorem dL_law_1493 : decode cL_law 1493 = .ok (.iadd, 1) := by decide +kernel
theorem dL_law_1494 : decode cL_law 1494 = .ok (.iaload, 1) := by decide +kernel
theorem dL_law_1495 : decode cL_law 1495 = .ok (.invokevirtual 179, 3) := by decide +kernel
theorem dL_law_1498 : decode cL_law 1498 = .ok (.aload_n 2, 1) := by decide +kernel
theorem dL_law_1499 : decode cL_law 1499 = .ok (.aload_n 0, 1) := by decide +kernel
theorem dL_law_1500 : decode cL_law 1500 = .ok (.iload_n 3, 1) := by decide +kernel
theorem dL_law_1501 : decode cL_law 1501 = .ok (.iconst 1, 1) := by decide +kernel
theorem dL_law_1502 : decode cL_law 1502 = .ok (.iadd, 1) := by decide +kernel
theorem dL_law_1503 : decode cL_law 1503 = .ok (.iaload, 1) := by decide +kernel
theorem dL_law_1504 : decode cL_law 1504 = .ok (.aload_n 0, 1) := by decide +kernel
theorem dL_law_1505 : decode cL_law 1505 = .ok (.iload_n 3, 1) := by decide +kernel
theorem dL_law_1506 : decode cL_law 1506 = .ok (.iconst 2, 1) := by decide +kernel
theorem dL_law_1507 : decode cL_law 1507 = .ok (.iadd, 1) := by decide +kernel
theorem dL_law_1508 : decode cL_law 1508 = .ok (.iaload, 1) := by decide +kernel
theorem dL_law_1509 : decode cL_law 1509 = .ok (.aload_n 0, 1) := by decide +kernel
theorem dL_law_1510 : decode cL_law 1510 = .ok (.iload_n 3, 1) := by decide +kernel
theorem dL_law_1511 : decode cL_law 1511 = .ok (.iconst 3, 1) := by decide +kernel
theorem dL_law_1512 : decode cL_law 1512 = .ok (.iadd, 1) := by decide +kernel
theorem dL_law_1513 : decode cL_law 1513 = .ok (.iaload, 1) := by decide +kernel
theorem dL_law_1514 : decode cL_law 1514 = .ok (.aload_n 0, 1) := by decide +kernel
theorem dL_law_1515 : decode cL_law 1515 = .ok (.iload_n 3, 1) := by decide +kernel
theorem dL_law_1516 : decode cL_law 1516 = .ok (.iconst 4, 1) := by decide +kernel
theorem dL_law_1517 : decode cL_law 1517 = .ok (.iadd, 1) := by decide +kernel
theorem dL_law_1518 : decode cL_law 1518 = .ok (.iaload, 1) := by decide +kernel
theorem dL_law_1519 : decode cL_law 1519 = .ok (.invokevirtual 182, 3) := by decide +kernel
theorem dL_law_1522 : decode cL_law 1522 = .ok (.if_icmp .eq 152, 3) := by decide +kernel
theorem dL_law_1525 : decode cL_law 1525 = .ok (.iconst 0, 1) := by decide +kernel
theorem dL_law_1526 : decode cL_law 1526 = .ok (.ireturn, 1) := by decide +kernel
theorem dL_law_1527 : decode cL_law 1527 = .ok (.aload_n 1, 1) := by decide +kernel
theorem dL_law_1528 : decode cL_law 1528 = .ok (.aload_n 0, 1) := by decide +kernel
theorem dL_law_1529 : decode cL_law 1529 = .ok (.iload_n 3, 1) := by decide +kernel
theorem dL_law_1530 : decode cL_law 1530 = .ok (.iconst 1, 1) := by decide +kernel
theorem dL_law_1531 : decode cL_law 1531 = .ok (.iadd, 1) := by decide +kernel
theorem dL_law_1532 : decode cL_law 1532 = .ok (.iaload, 1) := by decide +kernel
theorem dL_law_1533 : decode cL_law 1533 = .ok (.aload_n 0, 1) := by decide +kernel
theorem dL_law_1534 : decode cL_law 1534 = .ok (.iload_n 3, 1) := by decide +kernel
theorem dL_law_1535 : decode cL_law 1535 = .ok (.iconst 2, 1) := by decide +kernel
theorem dL_law_1536 : decode cL_law 1536 = .ok (.iadd, 1) := by decide +kernel
theorem dL_law_1537 : decode cL_law 1537 = .ok (.iaload, 1) := by decide +kernel
theorem dL_law_1538 : decode cL_law 1538 = .ok (.invokevirtual 183, 3) := by decide +kernel
theorem dL_law_1541 : decode cL_law 1541 = .ok (.aload_n 2, 1) := by decide +kernel
theorem dL_law_1542 : decode cL_law 1542 = .ok (.aload_n 0, 1) := by decide +kernel
theorem dL_law_1543 : decode cL_law 1543 = .ok (.iload_n 3, 1) := by decide +kernel
theorem dL_law_1544 : decode cL_law 1544 = .ok (.iconst 1, 1) := by decide +kernel
theorem dL_law_1545 : decode cL_law 1545 = .ok (.iadd, 1) := by decide +kernel
theorem dL_law_1546 : decode cL_law 1546 = .ok (.iaload, 1) := by decide +kernel
theorem dL_law_1547 : decode cL_law 1547 = .ok (.aload_n 0, 1) := by decide +kernel
theorem dL_law_1548 : decode cL_law 1548 = .ok (.iload_n 3, 1) := by decide +kernel
theorem dL_law_1549 : decode cL_law 1549 = .ok (.iconst 2, 1) := by decide +kernel
theorem dL_law_1550 : decode cL_law 1550 = .ok (.iadd, 1) := by decide +kernel
theorem dL_law_1551 : decode cL_law 1551 = .ok (.iaload, 1) := by decide +kernel
theorem dL_law_1552 : decode cL_law 1552 = .ok (.invokevirtual 186, 3) := by decide +kernel
theorem dL_law_1555 : decode cL_law 1555 = .ok (.if_icmp .eq 119, 3) := by decide +kernel
theorem dL_law_1558 : decode cL_law 1558 = .ok (.iconst 0, 1) := by decide +kernel
theorem dL_law_1559 : decode cL_law 1559 = .ok (.ireturn, 1) := by decide +kernel
theorem dL_law_1560 : decode cL_law 1560 = .ok (.aload_n 1, 1) := by decide +kernel
theorem dL_law_1561 : decode cL_law 1561 = .ok (.invokevirtual 187, 3) := by decide +kernel
theorem dL_law_1564 : decode cL_law 1564 = .ok (.aload_n 2, 1) := by decide +kernel
theorem dL_law_1565 : decode cL_law 1565 = .ok (.invokevirtual 190, 3) := by decide +kernel
theorem dL_law_1568 : decode cL_law 1568 = .ok (.if_icmp .eq 106, 3) := by decide +kernel
theorem dL_law_1571 : decode cL_law 1571 = .ok (.iconst 0, 1) := by decide +kernel
theorem dL_law_1572 : decode cL_law 1572 = .ok (.ireturn, 1) := by decide +kernel
theorem dL_law_1573 : decode cL_law 1573 = .ok (.aload_n 1, 1) := by decide +kernel
theorem dL_law_1574 : decode cL_law 1574 = .ok (.invokevirtual 191, 3) := by decide +kernel
theorem dL_law_1577 : decode cL_law 1577 = .ok (.aload_n 2, 1) := by decide +kernel
theorem dL_law_1578 : decode cL_law 1578 = .ok (.invokevirtual 195, 3) := by decide +kernel
theorem dL_law_1581 : decode cL_law 1581 = .ok (.lcmp, 1) := by decide +kernel
theorem dL_law_1582 : decode cL_law 1582 = .ok (.ifCond .eq 92, 3) := by decide +kernel
theorem dL_law_1585 : decode cL_law 1585 = .ok (.iconst 0, 1) := by decide +kernel
theorem dL_law_1586 : decode cL_law 1586 = .ok (.ireturn, 1) := by decide +kernel
theorem dL_law_1587 : decode cL_law 1587 = .ok (.aload_n 1, 1) := by decide +kernel
theorem dL_law_1588 : decode cL_law 1588 = .ok (.invokevirtual 196, 3) := by decide +kernel
theorem dL_law_1591 : decode cL_law 1591 = .ok (.aload_n 2, 1) := by decide +kernel
theorem dL_law_1592 : decode cL_law 1592 = .ok (.invokevirtual 199, 3) := by decide +kernel
theorem dL_law_1595 : decode cL_law 1595 = .ok (.lcmp, 1) := by decide +kernel
theorem dL_law_1596 : decode cL_law 1596 = .ok (.ifCond .eq 78, 3) := by decide +kernel
theorem dL_law_1599 : decode cL_law 1599 = .ok (.iconst 0, 1) := by decide +kernel
theorem dL_law_1600 : decode cL_law 1600 = .ok (.ireturn, 1) := by decide +kernel
theorem dL_law_1601 : decode cL_law 1601 = .ok (.aload_n 1, 1) := by decide +kernel
theorem dL_law_1602 : decode cL_law 1602 = .ok (.aload_n 0, 1) := by decide +kernel
theorem dL_law_1603 : decode cL_law 1603 = .ok (.iload_n 3, 1) := by decide +kernel
theorem dL_law_1604 : decode cL_law 1604 = .ok (.iconst 1, 1) := by decide +kernel
theorem dL_law_1605 : decode cL_law 1605 = .ok (.iadd, 1) := by decide +kernel
theorem dL_law_1606 : decode cL_law 1606 = .ok (.iaload, 1) := by decide +kernel
theorem dL_law_1607 : decode cL_law 1607 = .ok (.invokevirtual 200, 3) := by decide +kernel
theorem dL_law_1610 : decode cL_law 1610 = .ok (.aload_n 2, 1) := by decide +kernel
theorem dL_law_1611 : decode cL_law 1611 = .ok (.aload_n 0, 1) := by decide +kernel
theorem dL_law_1612 : decode cL_law 1612 = .ok (.iload_n 3, 1) := by decide +kernel
theorem dL_law_1613 : decode cL_law 1613 = .ok (.iconst 1, 1) := by decide +kernel
theorem dL_law_1614 : decode cL_law 1614 = .ok (.iadd, 1) := by decide +kernel
theorem dL_law_1615 : decode cL_law 1615 = .ok (.iaload, 1) := by decide +kernel
theorem dL_law_1616 : decode cL_law 1616 = .ok (.invokevirtual 203, 3) := by decide +kernel
theorem dL_law_1619 : decode cL_law 1619 = .ok (.if_icmp .eq 55, 3) := by decide +kernel
theorem dL_law_1622 : decode cL_law 1622 = .ok (.iconst 0, 1) := by decide +kernel
theorem dL_law_1623 : decode cL_law 1623 = .ok (.ireturn, 1) := by decide +kernel
theorem dL_law_1624 : decode cL_law 1624 = .ok (.aload_n 1, 1) := by decide +kernel
theorem dL_law_1625 : decode cL_law 1625 = .ok (.invokevirtual 204, 3) := by decide +kernel
theorem dL_law_1628 : decode cL_law 1628 = .ok (.aload_n 2, 1) := by decide +kernel
theorem dL_law_1629 : decode cL_law 1629 = .ok (.invokevirtual 207, 3) := by decide +kernel
theorem dL_law_1632 : decode cL_law 1632 = .ok (.if_icmp .eq 42, 3) := by decide +kernel
theorem dL_law_1635 : decode cL_law 1635 = .ok (.iconst 0, 1) := by decide +kernel
theorem dL_law_1636 : decode cL_law 1636 = .ok (.ireturn, 1) := by decide +kernel
theorem dL_law_1637 : decode cL_law 1637 = .ok (.aload_n 1, 1) := by decide +kernel
theorem dL_law_1638 : decode cL_law 1638 = .ok (.aload_n 0, 1) := by decide +kernel
theorem dL_law_1639 : decode cL_law 1639 = .ok (.iload_n 3, 1) := by decide +kernel
theorem dL_law_1640 : decode cL_law 1640 = .ok (.iconst 1, 1) := by decide +kernel
theorem dL_law_1641 : decode cL_law 1641 = .ok (.iadd, 1) := by decide +kernel
theorem dL_law_1642 : decode cL_law 1642 = .ok (.iaload, 1) := by decide +kernel
theorem dL_law_1643 : decode cL_law 1643 = .ok (.invokevirtual 208, 3) := by decide +kernel
theorem dL_law_1646 : decode cL_law 1646 = .ok (.aload_n 2, 1) := by decide +kernel
theorem dL_law_1647 : decode cL_law 1647 = .ok (.aload_n 0, 1) := by decide +kernel
theorem dL_law_1648 : decode cL_law 1648 = .ok (.iload_n 3, 1) := by decide +kernel
theorem dL_law_1649 : decode cL_law 1649 = .ok (.iconst 1, 1) := by decide +kernel
theorem dL_law_1650 : decode cL_law 1650 = .ok (.iadd, 1) := by decide +kernel
theorem dL_law_1651 : decode cL_law 1651 = .ok (.iaload, 1) := by decide +kernel
theorem dL_law_1652 : decode cL_law 1652 = .ok (.invokevirtual 211, 3) := by decide +kernel
theorem dL_law_1655 : decode cL_law 1655 = .ok (.if_icmp .eq 19, 3) := by decide +kernel
theorem dL_law_1658 : decode cL_law 1658 = .ok (.iconst 0, 1) := by decide +kernel
theorem dL_law_1659 : decode cL_law 1659 = .ok (.ireturn, 1) := by decide +kernel
theorem dL_law_1660 : decode cL_law 1660 = .ok (.aload_n 1, 1) := by decide +kernel
theorem dL_law_1661 : decode cL_law 1661 = .ok (.invokevirtual 212, 3) := by decide +kernel
theorem dL_law_1664 : decode cL_law 1664 = .ok (.aload_n 2, 1) := by decide +kernel
theorem dL_law_1665 : decode cL_law 1665 = .ok (.invokevirtual 215, 3) := by decide +kernel
theorem dL_law_1668 : decode cL_law 1668 = .ok (.lcmp, 1) := by decide +kernel
theorem dL_law_1669 : decode cL_law 1669 = .ok (.ifCond .eq 5, 3) := by decide +kernel
theorem dL_law_1672 : decode cL_law 1672 = .ok (.iconst 0, 1) := by decide +kernel
theorem dL_law_1673 : decode cL_law 1673 = .ok (.ireturn, 1) := by decide +kernel
theorem dL_law_1674 : decode cL_law 1674 = .ok (.iinc 3 6, 3) := by decide +kernel
theorem dL_law_1677 : decode cL_law 1677 = .ok (.goto (-1659), 3) := by decide +kernel
theorem dL_law_1680 : decode cL_law 1680 = .ok (.iconst 1, 1) := by decide +kernel
theorem dL_law_1681 : decode cL_law 1681 = .ok (.ireturn, 1) := by decide +kernel
