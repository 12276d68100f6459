theorem dX8_drops_23 : decode cX8_drops 23 = .ok (.getfield 156, 3) := by decide +kernel
theorem dX8_drops_26 : decode cX8_drops 26 = .ok (.istore 4, 2) := by decide +kernel
theorem dX8_drops_28 : decode cX8_drops 28 = .ok (.iconst 0, 1) := by decide +kernel
theorem dX8_drops_29 : decode cX8_drops 29 = .ok (.istore 5, 2) := by decide +kernel
theorem dX8_drops_31 : decode cX8_drops 31 = .ok (.iload 5, 2) := by decide +kernel
theorem dX8_drops_33 : decode cX8_drops 33 = .ok (.bipush 30, 2) := by decide +kernel
theorem dX8_drops_35 : decode cX8_drops 35 = .ok (.if_icmp .gt 30, 3) := by decide +kernel
theorem dX8_drops_38 : decode cX8_drops 38 = .ok (.iload 4, 2) := by decide +kernel
theorem dX8_drops_40 : decode cX8_drops 40 = .ok (.iconst 5, 1) := by decide +kernel
theorem dX8_drops_41 : decode cX8_drops 41 = .ok (.if_icmp .ge 6, 3) := by decide +kernel
theorem dX8_drops_44 : decode cX8_drops 44 = .ok (.iload 5, 2) := by decide +kernel
theorem dX8_drops_46 : decode cX8_drops 46 = .ok (.ireturn, 1) := by decide +kernel
theorem dX8_drops_47 : decode cX8_drops 47 = .ok (.aload_n 3, 1) := by decide +kernel
theorem dX8_drops_48 : decode cX8_drops 48 = .ok (.getfield 146, 3) := by decide +kernel
theorem dX8_drops_51 : decode cX8_drops 51 = .ok (.iload 4, 2) := by decide +kernel
theorem dX8_drops_53 : decode cX8_drops 53 = .ok (.iconst 0, 1) := by decide +kernel
theorem dX8_drops_54 : decode cX8_drops 54 = .ok (.invokestatic 215, 3) := by decide +kernel
theorem dX8_drops_57 : decode cX8_drops 57 = .ok (.istore 4, 2) := by decide +kernel
theorem dX8_drops_59 : decode cX8_drops 59 = .ok (.iinc 5 1, 3) := by decide +kernel
theorem dX8_drops_62 : decode cX8_drops 62 = .ok (.goto (-31), 3) := by decide +kernel
theorem dX8_drops_65 : decode cX8_drops 65 = .ok (.bipush (-9), 2) := by decide +kernel
theorem dX8_drops_67 : decode cX8_drops 67 = .ok (.ireturn, 1) := by decide +kernel
theorem dX8_back_0 : decode cX8_back 0 = .ok (.aload_n 0, 1) := by decide +kernel
theorem dX8_back_1 : decode cX8_back 1 = .ok (.iload_n 1, 1) := by decide +kernel
theorem dX8_back_2 : decode cX8_back 2 = .ok (.invokevirtual 174, 3) := by decide +kernel
theorem dX8_back_5 : decode cX8_back 5 = .ok (.istore_n 2, 1) := by decide +kernel
theorem dX8_back_6 : decode cX8_back 6 = .ok (.iload_n 2, 1) := by decide +kernel
theorem dX8_back_7 : decode cX8_back 7 = .ok (.ifCond .eq 5, 3) := by decide +kernel
theorem dX8_back_10 : decode cX8_back 10 = .ok (.iload_n 2, 1) := by decide +kernel
theorem dX8_back_11 : decode cX8_back 11 = .ok (.ireturn, 1) := by decide +kernel
theorem dX8_back_12 : decode cX8_back 12 = .ok (.aload_n 0, 1) := by decide +kernel
theorem dX8_back_13 : decode cX8_back 13 = .ok (.getfield 49, 3) := by decide +kernel
theorem dX8_back_16 : decode cX8_back 16 = .ok (.aload_n 0, 1) := by decide +kernel
theorem dX8_back_17 : decode cX8_back 17 = .ok (.getfield 25, 3) := by decide +kernel
theorem dX8_back_20 : decode cX8_back 20 = .ok (.getfield 137, 3) := by decide +kernel
theorem dX8_back_23 : decode cX8_back 23 = .ok (.iload_n 1, 1) := by decide +kernel
theorem dX8_back_24 : decode cX8_back 24 = .ok (.aaload, 1) := by decide +kernel
theorem dX8_back_25 : decode cX8_back 25 = .ok (.getfield 146, 3) := by decide +kernel
theorem dX8_back_28 : decode cX8_back 28 = .ok (.iconst 5, 1) := by decide +kernel
theorem dX8_back_29 : decode cX8_back 29 = .ok (.invokevirtual 219, 3) := by decide +kernel
theorem dX8_back_32 : decode cX8_back 32 = .ok (.aload_n 0, 1) := by decide +kernel
theorem dX8_back_33 : decode cX8_back 33 = .ok (.getfield 49, 3) := by decide +kernel
theorem dX8_back_36 : decode cX8_back 36 = .ok (.aload_n 0, 1) := by decide +kernel
theorem dX8_back_37 : decode cX8_back 37 = .ok (.getfield 25, 3) := by decide +kernel
theorem dX8_back_40 : decode cX8_back 40 = .ok (.getfield 137, 3) := by decide +kernel
theorem dX8_back_43 : decode cX8_back 43 = .ok (.iload_n 1, 1) := by decide +kernel
theorem dX8_back_44 : decode cX8_back 44 = .ok (.aaload, 1) := by decide +kernel
theorem dX8_back_45 : decode cX8_back 45 = .ok (.getfield 156, 3) := by decide +kernel
theorem dX8_back_48 : decode cX8_back 48 = .ok (.invokevirtual 223, 3) := by decide +kernel
theorem dX8_back_51 : decode cX8_back 51 = .ok (.ireturn, 1) := by decide +kernel
theorem dX8_error_0 : decode cX8_error 0 = .ok (.aload_n 0, 1) := by decide +kernel
theorem dX8_error_1 : decode cX8_error 1 = .ok (.iload_n 1, 1) := by decide +kernel
theorem dX8_error_2 : decode cX8_error 2 = .ok (.invokevirtual 187, 3) := by decide +kernel
theorem dX8_error_5 : decode cX8_error 5 = .ok (.istore_n 2, 1) := by decide +kernel
theorem dX8_error_6 : decode cX8_error 6 = .ok (.iload_n 2, 1) := by decide +kernel
theorem dX8_error_7 : decode cX8_error 7 = .ok (.ifCond .eq 5, 3) := by decide +kernel
theorem dX8_error_10 : decode cX8_error 10 = .ok (.iload_n 2, 1) := by decide +kernel
theorem dX8_error_11 : decode cX8_error 11 = .ok (.ireturn, 1) := by decide +kernel
theorem dX8_error_12 : decode cX8_error 12 = .ok (.aload_n 0, 1) := by decide +kernel
theorem dX8_error_13 : decode cX8_error 13 = .ok (.aload_n 0, 1) := by decide +kernel
theorem dX8_error_14 : decode cX8_error 14 = .ok (.getfield 11, 3) := by decide +kernel
theorem dX8_error_17 : decode cX8_error 17 = .ok (.iload_n 1, 1) := by decide +kernel
theorem dX8_error_18 : decode cX8_error 18 = .ok (.aaload, 1) := by decide +kernel
theorem dX8_error_19 : decode cX8_error 19 = .ok (.invokevirtual 190, 3) := by decide +kernel
theorem dX8_error_22 : decode cX8_error 22 = .ok (.aload_n 0, 1) := by decide +kernel
theorem dX8_error_23 : decode cX8_error 23 = .ok (.aload_n 0, 1) := by decide +kernel
theorem dX8_error_24 : decode cX8_error 24 = .ok (.getfield 35, 3) := by decide +kernel
theorem dX8_error_27 : decode cX8_error 27 = .ok (.invokevirtual 197, 3) := by decide +kernel
theorem dX8_error_30 : decode cX8_error 30 = .ok (.putfield 93, 3) := by decide +kernel
theorem dX8_error_33 : decode cX8_error 33 = .ok (.aload_n 0, 1) := by decide +kernel
theorem dX8_error_34 : decode cX8_error 34 = .ok (.getfield 35, 3) := by decide +kernel
theorem dX8_error_37 : decode cX8_error 37 = .ok (.invokevirtual 263, 3) := by decide +kernel
theorem dX8_error_40 : decode cX8_error 40 = .ok (.ireturn, 1) := by decide +kernel
theorem dX8_heard_0 : decode cX8_heard 0 = .ok (.iload_n 2, 1) := by decide +kernel
theorem dX8_heard_1 : decode cX8_heard 1 = .ok (.ifCond .lt 9, 3) := by decide +kernel
theorem dX8_heard_4 : decode cX8_heard 4 = .ok (.iload_n 2, 1) := by decide +kernel
theorem dX8_heard_5 : decode cX8_heard 5 = .ok (.bipush 6, 2) := by decide +kernel
theorem dX8_heard_7 : decode cX8_heard 7 = .ok (.if_icmp .lt 5, 3) := by decide +kernel
theorem dX8_heard_10 : decode cX8_heard 10 = .ok (.iconst (-1), 1) := by decide +kernel
theorem dX8_heard_11 : decode cX8_heard 11 = .ok (.ireturn, 1) := by decide +kernel
theorem dX8_heard_12 : decode cX8_heard 12 = .ok (.aload_n 0, 1) := by decide +kernel
theorem dX8_heard_13 : decode cX8_heard 13 = .ok (.iload_n 1, 1) := by decide +kernel
theorem dX8_heard_14 : decode cX8_heard 14 = .ok (.invokevirtual 187, 3) := by decide +kernel
theorem dX8_heard_17 : decode cX8_heard 17 = .ok (.istore_n 3, 1) := by decide +kernel
theorem dX8_heard_18 : decode cX8_heard 18 = .ok (.iload_n 3, 1) := by decide +kernel
theorem dX8_heard_19 : decode cX8_heard 19 = .ok (.ifCond .eq 5, 3) := by decide +kernel
theorem dX8_heard_22 : decode cX8_heard 22 = .ok (.iload_n 3, 1) := by decide +kernel
theorem dX8_heard_23 : decode cX8_heard 23 = .ok (.ireturn, 1) := by decide +kernel
theorem dX8_heard_24 : decode cX8_heard 24 = .ok (.aload_n 0, 1) := by decide +kernel
theorem dX8_heard_25 : decode cX8_heard 25 = .ok (.aload_n 0, 1) := by decide +kernel
theorem dX8_heard_26 : decode cX8_heard 26 = .ok (.getfield 11, 3) := by decide +kernel
theorem dX8_heard_29 : decode cX8_heard 29 = .ok (.iload_n 1, 1) := by decide +kernel
theorem dX8_heard_30 : decode cX8_heard 30 = .ok (.aaload, 1) := by decide +kernel
theorem dX8_heard_31 : decode cX8_heard 31 = .ok (.invokevirtual 190, 3) := by decide +kernel
theorem dX8_heard_34 : decode cX8_heard 34 = .ok (.iload_n 2, 1) := by decide +kernel
theorem dX8_heard_35 : decode cX8_heard 35 = .ok (.aload_n 0, 1) := by decide +kernel
theorem dX8_heard_36 : decode cX8_heard 36 = .ok (.getfield 35, 3) := by decide +kernel
theorem dX8_heard_39 : decode cX8_heard 39 = .ok (.getfield 266, 3) := by decide +kernel
theorem dX8_heard_42 : decode cX8_heard 42 = .ok (.if_icmp .lt 6, 3) := by decide +kernel
theorem dX8_heard_45 : decode cX8_heard 45 = .ok (.bipush (-9), 2) := by decide +kernel
theorem dX8_heard_47 : decode cX8_heard 47 = .ok (.ireturn, 1) := by decide +kernel
theorem dX8_heard_48 : decode cX8_heard 48 = .ok (.aload_n 0, 1) := by decide +kernel
theorem dX8_heard_49 : decode cX8_heard 49 = .ok (.aload_n 0, 1) := by decide +kernel
theorem dX8_heard_50 : decode cX8_heard 50 = .ok (.getfield 35, 3) := by decide +kernel
theorem dX8_heard_53 : decode cX8_heard 53 = .ok (.getfield 267, 3) := by decide +kernel
theorem dX8_heard_56 : decode cX8_heard 56 = .ok (.iload_n 2, 1) := by decide +kernel
theorem dX8_heard_57 : decode cX8_heard 57 = .ok (.iaload, 1) := by decide +kernel
theorem dX8_heard_58 : decode cX8_heard 58 = .ok (.putfield 93, 3) := by decide +kernel
theorem dX8_heard_61 : decode cX8_heard 61 = .ok (.aload_n 0, 1) := by decide +kernel
theorem dX8_heard_62 : decode cX8_heard 62 = .ok (.getfield 35, 3) := by decide +kernel
theorem dX8_heard_65 : decode cX8_heard 65 = .ok (.getfield 270, 3) := by decide +kernel
theorem dX8_heard_68 : decode cX8_heard 68 = .ok (.iload_n 2, 1) := by decide +kernel
theorem dX8_heard_69 : decode cX8_heard 69 = .ok (.iaload, 1) := by decide +kernel
theorem dX8_heard_70 : decode cX8_heard 70 = .ok (.ireturn, 1) := by decide +kernel
theorem dX8_even_0 : decode cX8_even 0 = .ok (.iload_n 1, 1) := by decide +kernel
theorem dX8_even_1 : decode cX8_even 1 = .ok (.invokestatic 78, 3) := by decide +kernel
theorem dX8_even_4 : decode cX8_even 4 = .ok (.ifCond .ne 5, 3) := by decide +kernel
theorem dX8_even_7 : decode cX8_even 7 = .ok (.iconst (-1), 1) := by decide +kernel
theorem dX8_even_8 : decode cX8_even 8 = .ok (.ireturn, 1) := by decide +kernel
theorem dX8_even_9 : decode cX8_even 9 = .ok (.aload_n 0, 1) := by decide +kernel
theorem dX8_even_10 : decode cX8_even 10 = .ok (.getfield 25, 3) := by decide +kernel
theorem dX8_even_13 : decode cX8_even 13 = .ok (.getfield 135, 3) := by decide +kernel
theorem dX8_even_16 : decode cX8_even 16 = .ok (.ifCond .ne 6, 3) := by decide +kernel
theorem dX8_even_19 : decode cX8_even 19 = .ok (.bipush (-4), 2) := by decide +kernel
theorem dX8_even_21 : decode cX8_even 21 = .ok (.ireturn, 1) := by decide +kernel
theorem dX8_even_22 : decode cX8_even 22 = .ok (.aload_n 0, 1) := by decide +kernel
theorem dX8_even_23 : decode cX8_even 23 = .ok (.getfield 42, 3) := by decide +kernel
theorem dX8_even_26 : decode cX8_even 26 = .ok (.invokevirtual 273, 3) := by decide +kernel
theorem dX8_even_29 : decode cX8_even 29 = .ok (.aload_n 0, 1) := by decide +kernel
theorem dX8_even_30 : decode cX8_even 30 = .ok (.getfield 35, 3) := by decide +kernel
theorem dX8_even_33 : decode cX8_even 33 = .ok (.invokevirtual 275, 3) := by decide +kernel
theorem dX8_even_36 : decode cX8_even 36 = .ok (.aload_n 0, 1) := by decide +kernel
theorem dX8_even_37 : decode cX8_even 37 = .ok (.getfield 42, 3) := by decide +kernel
theorem dX8_even_40 : decode cX8_even 40 = .ok (.aload_n 0, 1) := by decide +kernel
theorem dX8_even_41 : decode cX8_even 41 = .ok (.getfield 25, 3) := by decide +kernel
theorem dX8_even_44 : decode cX8_even 44 = .ok (.aload_n 0, 1) := by decide +kernel
theorem dX8_even_45 : decode cX8_even 45 = .ok (.getfield 35, 3) := by decide +kernel
theorem dX8_even_48 : decode cX8_even 48 = .ok (.iconst 0, 1) := by decide +kernel
theorem dX8_even_49 : decode cX8_even 49 = .ok (.invokevirtual 276, 3) := by decide +kernel
theorem dX8_even_52 : decode cX8_even 52 = .ok (.aload_n 0, 1) := by decide +kernel
theorem dX8_even_53 : decode cX8_even 53 = .ok (.getfield 42, 3) := by decide +kernel
theorem dX8_even_56 : decode cX8_even 56 = .ok (.getfield 280, 3) := by decide +kernel
theorem dX8_even_59 : decode cX8_even 59 = .ok (.bipush (-9), 2) := by decide +kernel
theorem dX8_even_61 : decode cX8_even 61 = .ok (.if_icmp .eq 23, 3) := by decide +kernel
theorem dX8_even_64 : decode cX8_even 64 = .ok (.aload_n 0, 1) := by decide +kernel
theorem dX8_even_65 : decode cX8_even 65 = .ok (.getfield 42, 3) := by decide +kernel
theorem dX8_even_68 : decode cX8_even 68 = .ok (.aload_n 0, 1) := by decide +kernel
theorem dX8_even_69 : decode cX8_even 69 = .ok (.getfield 25, 3) := by decide +kernel
theorem dX8_even_72 : decode cX8_even 72 = .ok (.getfield 135, 3) := by decide +kernel
theorem dX8_even_75 : decode cX8_even 75 = .ok (.aload_n 0, 1) := by decide +kernel
theorem dX8_even_76 : decode cX8_even 76 = .ok (.getfield 11, 3) := by decide +kernel
theorem dX8_even_79 : decode cX8_even 79 = .ok (.iload_n 1, 1) := by decide +kernel
theorem dX8_even_80 : decode cX8_even 80 = .ok (.aaload, 1) := by decide +kernel
theorem dX8_even_81 : decode cX8_even 81 = .ok (.invokevirtual 283, 3) := by decide +kernel
theorem dX8_even_84 : decode cX8_even 84 = .ok (.aload_n 0, 1) := by decide +kernel
theorem dX8_even_85 : decode cX8_even 85 = .ok (.getfield 42, 3) := by decide +kernel
theorem dX8_even_88 : decode cX8_even 88 = .ok (.getfield 280, 3) := by decide +kernel
theorem dX8_even_91 : decode cX8_even 91 = .ok (.ireturn, 1) := by decide +kernel
theorem dX8_change_0 : decode cX8_change 0 = .ok (.iload_n 1, 1) := by decide +kernel
theorem dX8_change_1 : decode cX8_change 1 = .ok (.invokestatic 78, 3) := by decide +kernel
theorem dX8_change_4 : decode cX8_change 4 = .ok (.ifCond .eq 10, 3) := by decide +kernel
theorem dX8_change_7 : decode cX8_change 7 = .ok (.iload_n 2, 1) := by decide +kernel
theorem dX8_change_8 : decode cX8_change 8 = .ok (.invokestatic 78, 3) := by decide +kernel
theorem dX8_change_11 : decode cX8_change 11 = .ok (.ifCond .ne 5, 3) := by decide +kernel
theorem dX8_change_14 : decode cX8_change 14 = .ok (.iconst (-1), 1) := by decide +kernel
theorem dX8_change_15 : decode cX8_change 15 = .ok (.ireturn, 1) := by decide +kernel
theorem dX8_change_16 : decode cX8_change 16 = .ok (.aload_n 0, 1) := by decide +kernel
theorem dX8_change_17 : decode cX8_change 17 = .ok (.getfield 25, 3) := by decide +kernel
theorem dX8_change_20 : decode cX8_change 20 = .ok (.getfield 135, 3) := by decide +kernel
theorem dX8_change_23 : decode cX8_change 23 = .ok (.ifCond .ne 6, 3) := by decide +kernel
theorem dX8_change_26 : decode cX8_change 26 = .ok (.bipush (-4), 2) := by decide +kernel
theorem dX8_change_28 : decode cX8_change 28 = .ok (.ireturn, 1) := by decide +kernel
theorem dX8_change_29 : decode cX8_change 29 = .ok (.aload_n 0, 1) := by decide +kernel
theorem dX8_change_30 : decode cX8_change 30 = .ok (.getfield 11, 3) := by decide +kernel
theorem dX8_change_33 : decode cX8_change 33 = .ok (.iload_n 1, 1) := by decide +kernel
theorem dX8_change_34 : decode cX8_change 34 = .ok (.aaload, 1) := by decide +kernel
theorem dX8_change_35 : decode cX8_change 35 = .ok (.astore_n 3, 1) := by decide +kernel
theorem dX8_change_36 : decode cX8_change 36 = .ok (.aload_n 3, 1) := by decide +kernel
theorem dX8_change_37 : decode cX8_change 37 = .ok (.getfield 97, 3) := by decide +kernel
theorem dX8_change_40 : decode cX8_change 40 = .ok (.ifCond .ne 9, 3) := by decide +kernel
theorem dX8_change_43 : decode cX8_change 43 = .ok (.aload_n 0, 1) := by decide +kernel
theorem dX8_change_44 : decode cX8_change 44 = .ok (.iconst 1, 1) := by decide +kernel
theorem dX8_change_45 : decode cX8_change 45 = .ok (.invokevirtual 101, 3) := by decide +kernel
theorem dX8_change_48 : decode cX8_change 48 = .ok (.ireturn, 1) := by decide +kernel
theorem dX8_change_49 : decode cX8_change 49 = .ok (.aload_n 3, 1) := by decide +kernel
theorem dX8_change_50 : decode cX8_change 50 = .ok (.getfield 105, 3) := by decide +kernel
theorem dX8_change_53 : decode cX8_change 53 = .ok (.aload_n 0, 1) := by decide +kernel
theorem dX8_change_54 : decode cX8_change 54 = .ok (.getfield 25, 3) := by decide +kernel
theorem dX8_change_57 : decode cX8_change 57 = .ok (.invokevirtual 287, 3) := by decide +kernel
theorem dX8_change_60 : decode cX8_change 60 = .ok (.if_icmp .eq 9, 3) := by decide +kernel
theorem dX8_change_63 : decode cX8_change 63 = .ok (.aload_n 0, 1) := by decide +kernel
theorem dX8_change_64 : decode cX8_change 64 = .ok (.iconst 5, 1) := by decide +kernel
theorem dX8_change_65 : decode cX8_change 65 = .ok (.invokevirtual 101, 3) := by decide +kernel
theorem dX8_change_68 : decode cX8_change 68 = .ok (.ireturn, 1) := by decide +kernel
theorem dX8_change_69 : decode cX8_change 69 = .ok (.aload_n 0, 1) := by decide +kernel
theorem dX8_change_70 : decode cX8_change 70 = .ok (.getfield 25, 3) := by decide +kernel
theorem dX8_change_73 : decode cX8_change 73 = .ok (.aload_n 3, 1) := by decide +kernel
theorem dX8_change_74 : decode cX8_change 74 = .ok (.invokevirtual 290, 3) := by decide +kernel
theorem dX8_change_77 : decode cX8_change 77 = .ok (.ifCond .ne 9, 3) := by decide +kernel
theorem dX8_change_80 : decode cX8_change 80 = .ok (.aload_n 0, 1) := by decide +kernel
theorem dX8_change_81 : decode cX8_change 81 = .ok (.iconst 3, 1) := by decide +kernel
theorem dX8_change_82 : decode cX8_change 82 = .ok (.invokevirtual 101, 3) := by decide +kernel
theorem dX8_change_85 : decode cX8_change 85 = .ok (.ireturn, 1) := by decide +kernel
theorem dX8_change_86 : decode cX8_change 86 = .ok (.aload_n 0, 1) := by decide +kernel
theorem dX8_change_87 : decode cX8_change 87 = .ok (.aload_n 3, 1) := by decide +kernel
theorem dX8_change_88 : decode cX8_change 88 = .ok (.aload_n 0, 1) := by decide +kernel
theorem dX8_change_89 : decode cX8_change 89 = .ok (.getfield 11, 3) := by decide +kernel
theorem dX8_change_92 : decode cX8_change 92 = .ok (.iload_n 2, 1) := by decide +kernel
theorem dX8_change_93 : decode cX8_change 93 = .ok (.aaload, 1) := by decide +kernel
theorem dX8_change_94 : decode cX8_change 94 = .ok (.invokevirtual 294, 3) := by decide +kernel
theorem dX8_change_97 : decode cX8_change 97 = .ok (.ireturn, 1) := by decide +kernel
theorem dX8_orders_0 : decode cX8_orders 0 = .ok (.aload_n 0, 1) := by decide +kernel
theorem dX8_orders_1 : decode cX8_orders 1 = .ok (.getfield 25, 3) := by decide +kernel
theorem dX8_orders_4 : decode cX8_orders 4 = .ok (.getfield 135, 3) := by decide +kernel
theorem dX8_orders_7 : decode cX8_orders 7 = .ok (.ifCond .ne 8, 3) := by decide +kernel
theorem dX8_orders_10 : decode cX8_orders 10 = .ok (.bipush (-4), 2) := by decide +kernel
theorem dX8_orders_12 : decode cX8_orders 12 = .ok (.goto 20, 3) := by decide +kernel
theorem dX8_orders_15 : decode cX8_orders 15 = .ok (.aload_n 0, 1) := by decide +kernel
theorem dX8_orders_16 : decode cX8_orders 16 = .ok (.getfield 25, 3) := by decide +kernel
theorem dX8_orders_19 : decode cX8_orders 19 = .ok (.aload_n 0, 1) := by decide +kernel
theorem dX8_orders_20 : decode cX8_orders 20 = .ok (.getfield 25, 3) := by decide +kernel
theorem dX8_orders_23 : decode cX8_orders 23 = .ok (.invokevirtual 298, 3) := by decide +kernel
theorem dX8_orders_26 : decode cX8_orders 26 = .ok (.bipush (-9), 2) := by decide +kernel
theorem dX8_orders_28 : decode cX8_orders 28 = .ok (.iconst 0, 1) := by decide +kernel
theorem dX8_orders_29 : decode cX8_orders 29 = .ok (.invokevirtual 301, 3) := by decide +kernel
theorem dX8_orders_32 : decode cX8_orders 32 = .ok (.ireturn, 1) := by decide +kernel
theorem dX8_late_0 : decode cX8_late 0 = .ok (.aload_n 0, 1) := by decide +kernel
theorem dX8_late_1 : decode cX8_late 1 = .ok (.iload_n 1, 1) := by decide +kernel
theorem dX8_late_2 : decode cX8_late 2 = .ok (.invokevirtual 187, 3) := by decide +kernel
theorem dX8_late_5 : decode cX8_late 5 = .ok (.istore_n 2, 1) := by decide +kernel
theorem dX8_late_6 : decode cX8_late 6 = .ok (.iload_n 2, 1) := by decide +kernel
theorem dX8_late_7 : decode cX8_late 7 = .ok (.ifCond .eq 5, 3) := by decide +kernel
theorem dX8_late_10 : decode cX8_late 10 = .ok (.iload_n 2, 1) := by decide +kernel
theorem dX8_late_11 : decode cX8_late 11 = .ok (.ireturn, 1) := by decide +kernel
theorem dX8_late_12 : decode cX8_late 12 = .ok (.aload_n 0, 1) := by decide +kernel
theorem dX8_late_13 : decode cX8_late 13 = .ok (.aload_n 0, 1) := by decide +kernel
theorem dX8_late_14 : decode cX8_late 14 = .ok (.getfield 11, 3) := by decide +kernel
theorem dX8_late_17 : decode cX8_late 17 = .ok (.iload_n 1, 1) := by decide +kernel
theorem dX8_late_18 : decode cX8_late 18 = .ok (.aaload, 1) := by decide +kernel
theorem dX8_late_19 : decode cX8_late 19 = .ok (.invokevirtual 190, 3) := by decide +kernel
theorem dX8_late_22 : decode cX8_late 22 = .ok (.bipush (-9), 2) := by decide +kernel
theorem dX8_late_24 : decode cX8_late 24 = .ok (.istore_n 3, 1) := by decide +kernel
theorem dX8_late_25 : decode cX8_late 25 = .ok (.iconst (-1), 1) := by decide +kernel
theorem dX8_late_26 : decode cX8_late 26 = .ok (.istore 4, 2) := by decide +kernel
theorem dX8_late_28 : decode cX8_late 28 = .ok (.iconst 1, 1) := by decide +kernel
theorem dX8_late_29 : decode cX8_late 29 = .ok (.istore 5, 2) := by decide +kernel
theorem dX8_late_31 : decode cX8_late 31 = .ok (.iload 5, 2) := by decide +kernel
theorem dX8_late_33 : decode cX8_late 33 = .ok (.aload_n 0, 1) := by decide +kernel
theorem dX8_late_34 : decode cX8_late 34 = .ok (.getfield 35, 3) := by decide +kernel
theorem dX8_late_37 : decode cX8_late 37 = .ok (.getfield 266, 3) := by decide +kernel
theorem dX8_late_40 : decode cX8_late 40 = .ok (.if_icmp .ge 56, 3) := by decide +kernel
theorem dX8_late_43 : decode cX8_late 43 = .ok (.aload_n 0, 1) := by decide +kernel
theorem dX8_late_44 : decode cX8_late 44 = .ok (.getfield 35, 3) := by decide +kernel
theorem dX8_late_47 : decode cX8_late 47 = .ok (.getfield 267, 3) := by decide +kernel
theorem dX8_late_50 : decode cX8_late 50 = .ok (.iload 5, 2) := by decide +kernel
theorem dX8_late_52 : decode cX8_late 52 = .ok (.iaload, 1) := by decide +kernel
theorem dX8_late_53 : decode cX8_late 53 = .ok (.aload_n 0, 1) := by decide +kernel
theorem dX8_late_54 : decode cX8_late 54 = .ok (.getfield 35, 3) := by decide +kernel
theorem dX8_late_57 : decode cX8_late 57 = .ok (.getfield 267, 3) := by decide +kernel
theorem dX8_late_60 : decode cX8_late 60 = .ok (.iload 5, 2) := by decide +kernel
theorem dX8_late_62 : decode cX8_late 62 = .ok (.iconst 1, 1) := by decide +kernel
theorem dX8_late_63 : decode cX8_late 63 = .ok (.isub, 1) := by decide +kernel
theorem dX8_late_64 : decode cX8_late 64 = .ok (.iaload, 1) := by decide +kernel
theorem dX8_late_65 : decode cX8_late 65 = .ok (.isub, 1) := by decide +kernel
theorem dX8_late_66 : decode cX8_late 66 = .ok (.istore 6, 2) := by decide +kernel
theorem dX8_late_68 : decode cX8_late 68 = .ok (.iload 6, 2) := by decide +kernel
theorem dX8_late_70 : decode cX8_late 70 = .ok (.iload 4, 2) := by decide +kernel
theorem dX8_late_72 : decode cX8_late 72 = .ok (.if_icmp .le 18, 3) := by decide +kernel
theorem dX8_late_75 : decode cX8_late 75 = .ok (.iload 6, 2) := by decide +kernel
theorem dX8_late_77 : decode cX8_late 77 = .ok (.istore 4, 2) := by decide +kernel
theorem dX8_late_79 : decode cX8_late 79 = .ok (.aload_n 0, 1) := by decide +kernel
theorem dX8_late_80 : decode cX8_late 80 = .ok (.getfield 35, 3) := by decide +kernel
theorem dX8_late_83 : decode cX8_late 83 = .ok (.getfield 270, 3) := by decide +kernel
theorem dX8_late_86 : decode cX8_late 86 = .ok (.iload 5, 2) := by decide +kernel
theorem dX8_late_88 : decode cX8_late 88 = .ok (.iaload, 1) := by decide +kernel
theorem dX8_late_89 : decode cX8_late 89 = .ok (.istore_n 3, 1) := by decide +kernel
theorem dX8_late_90 : decode cX8_late 90 = .ok (.iinc 5 1, 3) := by decide +kernel
theorem dX8_late_93 : decode cX8_late 93 = .ok (.goto (-62), 3) := by decide +kernel
theorem dX8_late_96 : decode cX8_late 96 = .ok (.iload_n 3, 1) := by decide +kernel
theorem dX8_late_97 : decode cX8_late 97 = .ok (.bipush (-9), 2) := by decide +kernel
theorem dX8_late_99 : decode cX8_late 99 = .ok (.if_icmp .eq 9, 3) := by decide +kernel
theorem dX8_late_102 : decode cX8_late 102 = .ok (.aload_n 0, 1) := by decide +kernel
theorem dX8_late_103 : decode cX8_late 103 = .ok (.iload 4, 2) := by decide +kernel
theorem dX8_late_105 : decode cX8_late 105 = .ok (.putfield 93, 3) := by decide +kernel
theorem dX8_late_108 : decode cX8_late 108 = .ok (.iload_n 3, 1) := by decide +kernel
theorem dX8_late_109 : decode cX8_late 109 = .ok (.ireturn, 1) := by decide +kernel
theorem dX8_game_0 : decode cX8_game 0 = .ok (.iload_n 2, 1) := by decide +kernel
theorem dX8_game_1 : decode cX8_game 1 = .ok (.ifCond .lt 8, 3) := by decide +kernel
theorem dX8_game_4 : decode cX8_game 4 = .ok (.iload_n 2, 1) := by decide +kernel
theorem dX8_game_5 : decode cX8_game 5 = .ok (.iconst 3, 1) := by decide +kernel
theorem dX8_game_6 : decode cX8_game 6 = .ok (.if_icmp .le 5, 3) := by decide +kernel
theorem dX8_game_9 : decode cX8_game 9 = .ok (.iconst (-1), 1) := by decide +kernel
theorem dX8_game_10 : decode cX8_game 10 = .ok (.ireturn, 1) := by decide +kernel
theorem dX8_game_11 : decode cX8_game 11 = .ok (.aload_n 0, 1) := by decide +kernel
theorem dX8_game_12 : decode cX8_game 12 = .ok (.iload_n 1, 1) := by decide +kernel
theorem dX8_game_13 : decode cX8_game 13 = .ok (.invokevirtual 174, 3) := by decide +kernel
theorem dX8_game_16 : decode cX8_game 16 = .ok (.istore_n 3, 1) := by decide +kernel
theorem dX8_game_17 : decode cX8_game 17 = .ok (.iload_n 3, 1) := by decide +kernel
theorem dX8_game_18 : decode cX8_game 18 = .ok (.ifCond .eq 5, 3) := by decide +kernel
theorem dX8_game_21 : decode cX8_game 21 = .ok (.iload_n 3, 1) := by decide +kernel
theorem dX8_game_22 : decode cX8_game 22 = .ok (.ireturn, 1) := by decide +kernel
theorem dX8_game_23 : decode cX8_game 23 = .ok (.aload_n 0, 1) := by decide +kernel
theorem dX8_game_24 : decode cX8_game 24 = .ok (.getfield 63, 3) := by decide +kernel
theorem dX8_game_27 : decode cX8_game 27 = .ok (.aload_n 0, 1) := by decide +kernel
theorem dX8_game_28 : decode cX8_game 28 = .ok (.getfield 25, 3) := by decide +kernel
theorem dX8_game_31 : decode cX8_game 31 = .ok (.getfield 137, 3) := by decide +kernel
theorem dX8_game_34 : decode cX8_game 34 = .ok (.iload_n 1, 1) := by decide +kernel
theorem dX8_game_35 : decode cX8_game 35 = .ok (.aaload, 1) := by decide +kernel
theorem dX8_game_36 : decode cX8_game 36 = .ok (.getfield 146, 3) := by decide +kernel
theorem dX8_game_39 : decode cX8_game 39 = .ok (.iload_n 2, 1) := by decide +kernel
theorem dX8_game_40 : decode cX8_game 40 = .ok (.invokevirtual 304, 3) := by decide +kernel
theorem dX8_game_43 : decode cX8_game 43 = .ok (.aload_n 0, 1) := by decide +kernel
theorem dX8_game_44 : decode cX8_game 44 = .ok (.getfield 63, 3) := by decide +kernel
theorem dX8_game_47 : decode cX8_game 47 = .ok (.getfield 307, 3) := by decide +kernel
theorem dX8_game_50 : decode cX8_game 50 = .ok (.aload_n 0, 1) := by decide +kernel
theorem dX8_game_51 : decode cX8_game 51 = .ok (.getfield 25, 3) := by decide +kernel
theorem dX8_game_54 : decode cX8_game 54 = .ok (.getfield 137, 3) := by decide +kernel
theorem dX8_game_57 : decode cX8_game 57 = .ok (.iload_n 1, 1) := by decide +kernel
theorem dX8_game_58 : decode cX8_game 58 = .ok (.aaload, 1) := by decide +kernel
theorem dX8_game_59 : decode cX8_game 59 = .ok (.getfield 156, 3) := by decide +kernel
theorem dX8_game_62 : decode cX8_game 62 = .ok (.baload, 1) := by decide +kernel
theorem dX8_game_63 : decode cX8_game 63 = .ok (.ifCond .eq 7, 3) := by decide +kernel
theorem dX8_game_66 : decode cX8_game 66 = .ok (.iconst 1, 1) := by decide +kernel
theorem dX8_game_67 : decode cX8_game 67 = .ok (.goto 4, 3) := by decide +kernel
theorem dX8_game_70 : decode cX8_game 70 = .ok (.iconst 0, 1) := by decide +kernel
theorem dX8_game_71 : decode cX8_game 71 = .ok (.ireturn, 1) := by decide +kernel
theorem dX8_first_0 : decode cX8_first 0 = .ok (.iload_n 2, 1) := by decide +kernel
theorem dX8_first_1 : decode cX8_first 1 = .ok (.iconst 1, 1) := by decide +kernel
theorem dX8_first_2 : decode cX8_first 2 = .ok (.if_icmp .lt 8, 3) := by decide +kernel
theorem dX8_first_5 : decode cX8_first 5 = .ok (.iload_n 2, 1) := by decide +kernel
theorem dX8_first_6 : decode cX8_first 6 = .ok (.iconst 3, 1) := by decide +kernel
theorem dX8_first_7 : decode cX8_first 7 = .ok (.if_icmp .le 5, 3) := by decide +kernel
theorem dX8_first_10 : decode cX8_first 10 = .ok (.iconst (-1), 1) := by decide +kernel
theorem dX8_first_11 : decode cX8_first 11 = .ok (.ireturn, 1) := by decide +kernel
theorem dX8_first_12 : decode cX8_first 12 = .ok (.aload_n 0, 1) := by decide +kernel
theorem dX8_first_13 : decode cX8_first 13 = .ok (.iload_n 1, 1) := by decide +kernel
theorem dX8_first_14 : decode cX8_first 14 = .ok (.invokevirtual 174, 3) := by decide +kernel
theorem dX8_first_17 : decode cX8_first 17 = .ok (.istore_n 3, 1) := by decide +kernel
theorem dX8_first_18 : decode cX8_first 18 = .ok (.iload_n 3, 1) := by decide +kernel
theorem dX8_first_19 : decode cX8_first 19 = .ok (.ifCond .eq 5, 3) := by decide +kernel
theorem dX8_first_22 : decode cX8_first 22 = .ok (.iload_n 3, 1) := by decide +kernel
theorem dX8_first_23 : decode cX8_first 23 = .ok (.ireturn, 1) := by decide +kernel
theorem dX8_first_24 : decode cX8_first 24 = .ok (.aload_n 0, 1) := by decide +kernel
theorem dX8_first_25 : decode cX8_first 25 = .ok (.getfield 63, 3) := by decide +kernel
theorem dX8_first_28 : decode cX8_first 28 = .ok (.aload_n 0, 1) := by decide +kernel
theorem dX8_first_29 : decode cX8_first 29 = .ok (.getfield 25, 3) := by decide +kernel
theorem dX8_first_32 : decode cX8_first 32 = .ok (.getfield 137, 3) := by decide +kernel
theorem dX8_first_35 : decode cX8_first 35 = .ok (.iload_n 1, 1) := by decide +kernel
theorem dX8_first_36 : decode cX8_first 36 = .ok (.aaload, 1) := by decide +kernel
theorem dX8_first_37 : decode cX8_first 37 = .ok (.getfield 146, 3) := by decide +kernel
theorem dX8_first_40 : decode cX8_first 40 = .ok (.iload_n 2, 1) := by decide +kernel
theorem dX8_first_41 : decode cX8_first 41 = .ok (.invokevirtual 304, 3) := by decide +kernel
theorem dX8_first_44 : decode cX8_first 44 = .ok (.aload_n 0, 1) := by decide +kernel
theorem dX8_first_45 : decode cX8_first 45 = .ok (.getfield 63, 3) := by decide +kernel
theorem dX8_first_48 : decode cX8_first 48 = .ok (.aload_n 0, 1) := by decide +kernel
theorem dX8_first_49 : decode cX8_first 49 = .ok (.getfield 25, 3) := by decide +kernel
theorem dX8_first_52 : decode cX8_first 52 = .ok (.getfield 137, 3) := by decide +kernel
theorem dX8_first_55 : decode cX8_first 55 = .ok (.iload_n 1, 1) := by decide +kernel
theorem dX8_first_56 : decode cX8_first 56 = .ok (.aaload, 1) := by decide +kernel
theorem dX8_first_57 : decode cX8_first 57 = .ok (.getfield 146, 3) := by decide +kernel
theorem dX8_first_60 : decode cX8_first 60 = .ok (.aload_n 0, 1) := by decide +kernel
theorem dX8_first_61 : decode cX8_first 61 = .ok (.getfield 25, 3) := by decide +kernel
theorem dX8_first_64 : decode cX8_first 64 = .ok (.getfield 137, 3) := by decide +kernel
theorem dX8_first_67 : decode cX8_first 67 = .ok (.iload_n 1, 1) := by decide +kernel
theorem dX8_first_68 : decode cX8_first 68 = .ok (.aaload, 1) := by decide +kernel
theorem dX8_first_69 : decode cX8_first 69 = .ok (.getfield 156, 3) := by decide +kernel
theorem dX8_first_72 : decode cX8_first 72 = .ok (.invokevirtual 311, 3) := by decide +kernel
theorem dX8_first_75 : decode cX8_first 75 = .ok (.ireturn, 1) := by decide +kernel
theorem dX8_kinds_0 : decode cX8_kinds 0 = .ok (.aload_n 0, 1) := by decide +kernel
theorem dX8_kinds_1 : decode cX8_kinds 1 = .ok (.iload_n 1, 1) := by decide +kernel
theorem dX8_kinds_2 : decode cX8_kinds 2 = .ok (.iload_n 2, 1) := by decide +kernel
theorem dX8_kinds_3 : decode cX8_kinds 3 = .ok (.invokevirtual 314, 3) := by decide +kernel
theorem dX8_kinds_6 : decode cX8_kinds 6 = .ok (.istore_n 3, 1) := by decide +kernel
theorem dX8_kinds_7 : decode cX8_kinds 7 = .ok (.iload_n 3, 1) := by decide +kernel
theorem dX8_kinds_8 : decode cX8_kinds 8 = .ok (.ifCond .eq 5, 3) := by decide +kernel
theorem dX8_kinds_11 : decode cX8_kinds 11 = .ok (.iload_n 3, 1) := by decide +kernel
theorem dX8_kinds_12 : decode cX8_kinds 12 = .ok (.ireturn, 1) := by decide +kernel
theorem dX8_kinds_13 : decode cX8_kinds 13 = .ok (.aload_n 0, 1) := by decide +kernel
theorem dX8_kinds_14 : decode cX8_kinds 14 = .ok (.getfield 25, 3) := by decide +kernel
theorem dX8_kinds_17 : decode cX8_kinds 17 = .ok (.getfield 137, 3) := by decide +kernel
theorem dX8_kinds_20 : decode cX8_kinds 20 = .ok (.iload_n 1, 1) := by decide +kernel
theorem dX8_kinds_21 : decode cX8_kinds 21 = .ok (.aaload, 1) := by decide +kernel
theorem dX8_kinds_22 : decode cX8_kinds 22 = .ok (.astore 4, 2) := by decide +kernel
theorem dX8_kinds_24 : decode cX8_kinds 24 = .ok (.iconst 0, 1) := by decide +kernel
theorem dX8_kinds_25 : decode cX8_kinds 25 = .ok (.istore 5, 2) := by decide +kernel
theorem dX8_kinds_27 : decode cX8_kinds 27 = .ok (.iconst 0, 1) := by decide +kernel
theorem dX8_kinds_28 : decode cX8_kinds 28 = .ok (.istore 6, 2) := by decide +kernel
theorem dX8_kinds_30 : decode cX8_kinds 30 = .ok (.iload 6, 2) := by decide +kernel
theorem dX8_kinds_32 : decode cX8_kinds 32 = .ok (.bipush 6, 2) := by decide +kernel
theorem dX8_kinds_34 : decode cX8_kinds 34 = .ok (.if_icmp .ge 49, 3) := by decide +kernel
theorem dX8_kinds_37 : decode cX8_kinds 37 = .ok (.aload_n 0, 1) := by decide +kernel
theorem dX8_kinds_38 : decode cX8_kinds 38 = .ok (.getfield 11, 3) := by decide +kernel
theorem dX8_kinds_41 : decode cX8_kinds 41 = .ok (.iload_n 2, 1) := by decide +kernel
theorem dX8_kinds_42 : decode cX8_kinds 42 = .ok (.aaload, 1) := by decide +kernel
theorem dX8_kinds_43 : decode cX8_kinds 43 = .ok (.iload 6, 2) := by decide +kernel
theorem dX8_kinds_45 : decode cX8_kinds 45 = .ok (.aload 4, 2) := by decide +kernel
theorem dX8_kinds_47 : decode cX8_kinds 47 = .ok (.getfield 317, 3) := by decide +kernel
theorem dX8_kinds_50 : decode cX8_kinds 50 = .ok (.aload_n 0, 1) := by decide +kernel
theorem dX8_kinds_51 : decode cX8_kinds 51 = .ok (.getfield 25, 3) := by decide +kernel
theorem dX8_kinds_54 : decode cX8_kinds 54 = .ok (.getfield 168, 3) := by decide +kernel
theorem dX8_kinds_57 : decode cX8_kinds 57 = .ok (.aload 4, 2) := by decide +kernel
theorem dX8_kinds_59 : decode cX8_kinds 59 = .ok (.getfield 156, 3) := by decide +kernel
theorem dX8_kinds_62 : decode cX8_kinds 62 = .ok (.invokestatic 320, 3) := by decide +kernel
theorem dX8_kinds_65 : decode cX8_kinds 65 = .ok (.ifCond .eq 12, 3) := by decide +kernel
theorem dX8_kinds_68 : decode cX8_kinds 68 = .ok (.iload 5, 2) := by decide +kernel
theorem dX8_kinds_70 : decode cX8_kinds 70 = .ok (.iconst 1, 1) := by decide +kernel
theorem dX8_kinds_71 : decode cX8_kinds 71 = .ok (.iload 6, 2) := by decide +kernel
theorem dX8_kinds_73 : decode cX8_kinds 73 = .ok (.ishl, 1) := by decide +kernel
theorem dX8_kinds_74 : decode cX8_kinds 74 = .ok (.ior, 1) := by decide +kernel
theorem dX8_kinds_75 : decode cX8_kinds 75 = .ok (.istore 5, 2) := by decide +kernel
theorem dX8_kinds_77 : decode cX8_kinds 77 = .ok (.iinc 6 1, 3) := by decide +kernel
theorem dX8_kinds_80 : decode cX8_kinds 80 = .ok (.goto (-50), 3) := by decide +kernel
theorem dX8_kinds_83 : decode cX8_kinds 83 = .ok (.iload 5, 2) := by decide +kernel
theorem dX8_kinds_85 : decode cX8_kinds 85 = .ok (.ireturn, 1) := by decide +kernel
theorem dX8_damps_0 : decode cX8_damps 0 = .ok (.aload_n 0, 1) := by decide +kernel
theorem dX8_damps_1 : decode cX8_damps 1 = .ok (.iload_n 1, 1) := by decide +kernel
theorem dX8_damps_2 : decode cX8_damps 2 = .ok (.iload_n 2, 1) := by decide +kernel
theorem dX8_damps_3 : decode cX8_damps 3 = .ok (.invokevirtual 314, 3) := by decide +kernel
theorem dX8_damps_6 : decode cX8_damps 6 = .ok (.istore_n 3, 1) := by decide +kernel
theorem dX8_damps_7 : decode cX8_damps 7 = .ok (.iload_n 3, 1) := by decide +kernel
theorem dX8_damps_8 : decode cX8_damps 8 = .ok (.ifCond .eq 5, 3) := by decide +kernel
theorem dX8_damps_11 : decode cX8_damps 11 = .ok (.iload_n 3, 1) := by decide +kernel
theorem dX8_damps_12 : decode cX8_damps 12 = .ok (.ireturn, 1) := by decide +kernel
theorem dX8_damps_13 : decode cX8_damps 13 = .ok (.aload_n 0, 1) := by decide +kernel
theorem dX8_damps_14 : decode cX8_damps 14 = .ok (.getfield 25, 3) := by decide +kernel
theorem dX8_damps_17 : decode cX8_damps 17 = .ok (.getfield 137, 3) := by decide +kernel
theorem dX8_damps_20 : decode cX8_damps 20 = .ok (.iload_n 1, 1) := by decide +kernel
theorem dX8_damps_21 : decode cX8_damps 21 = .ok (.aaload, 1) := by decide +kernel
theorem dX8_damps_22 : decode cX8_damps 22 = .ok (.astore 4, 2) := by decide +kernel
theorem dX8_damps_24 : decode cX8_damps 24 = .ok (.iconst 0, 1) := by decide +kernel
theorem dX8_damps_25 : decode cX8_damps 25 = .ok (.istore 5, 2) := by decide +kernel
theorem dX8_damps_27 : decode cX8_damps 27 = .ok (.iconst 0, 1) := by decide +kernel
theorem dX8_damps_28 : decode cX8_damps 28 = .ok (.istore 6, 2) := by decide +kernel
theorem dX8_damps_30 : decode cX8_damps 30 = .ok (.iload 6, 2) := by decide +kernel
theorem dX8_damps_32 : decode cX8_damps 32 = .ok (.iconst 3, 1) := by decide +kernel
theorem dX8_damps_33 : decode cX8_damps 33 = .ok (.if_icmp .gt 47, 3) := by decide +kernel
theorem dX8_damps_36 : decode cX8_damps 36 = .ok (.aload_n 0, 1) := by decide +kernel
theorem dX8_damps_37 : decode cX8_damps 37 = .ok (.getfield 11, 3) := by decide +kernel
theorem dX8_damps_40 : decode cX8_damps 40 = .ok (.iload_n 2, 1) := by decide +kernel
theorem dX8_damps_41 : decode cX8_damps 41 = .ok (.aaload, 1) := by decide +kernel
theorem dX8_damps_42 : decode cX8_damps 42 = .ok (.aload 4, 2) := by decide +kernel
theorem dX8_damps_44 : decode cX8_damps 44 = .ok (.getfield 146, 3) := by decide +kernel
theorem dX8_damps_47 : decode cX8_damps 47 = .ok (.aload 4, 2) := by decide +kernel
theorem dX8_damps_49 : decode cX8_damps 49 = .ok (.getfield 317, 3) := by decide +kernel
theorem dX8_damps_52 : decode cX8_damps 52 = .ok (.iload 6, 2) := by decide +kernel
theorem dX8_damps_54 : decode cX8_damps 54 = .ok (.aload 4, 2) := by decide +kernel
theorem dX8_damps_56 : decode cX8_damps 56 = .ok (.getfield 156, 3) := by decide +kernel
theorem dX8_damps_59 : decode cX8_damps 59 = .ok (.invokestatic 320, 3) := by decide +kernel
theorem dX8_damps_62 : decode cX8_damps 62 = .ok (.ifCond .eq 12, 3) := by decide +kernel
theorem dX8_damps_65 : decode cX8_damps 65 = .ok (.iload 5, 2) := by decide +kernel
theorem dX8_damps_67 : decode cX8_damps 67 = .ok (.iconst 1, 1) := by decide +kernel
theorem dX8_damps_68 : decode cX8_damps 68 = .ok (.iload 6, 2) := by decide +kernel
theorem dX8_damps_70 : decode cX8_damps 70 = .ok (.ishl, 1) := by decide +kernel
theorem dX8_damps_71 : decode cX8_damps 71 = .ok (.ior, 1) := by decide +kernel
theorem dX8_damps_72 : decode cX8_damps 72 = .ok (.istore 5, 2) := by decide +kernel
theorem dX8_damps_74 : decode cX8_damps 74 = .ok (.iinc 6 1, 3) := by decide +kernel
theorem dX8_damps_77 : decode cX8_damps 77 = .ok (.goto (-47), 3) := by decide +kernel
theorem dX8_damps_80 : decode cX8_damps 80 = .ok (.iload 5, 2) := by decide +kernel
theorem dX8_damps_82 : decode cX8_damps 82 = .ok (.ireturn, 1) := by decide +kernel
theorem dX8_heights_0 : decode cX8_heights 0 = .ok (.aload_n 0, 1) := by decide +kernel
theorem dX8_heights_1 : decode cX8_heights 1 = .ok (.iload_n 1, 1) := by decide +kernel
theorem dX8_heights_2 : decode cX8_heights 2 = .ok (.iload_n 2, 1) := by decide +kernel
theorem dX8_heights_3 : decode cX8_heights 3 = .ok (.invokevirtual 314, 3) := by decide +kernel
theorem dX8_heights_6 : decode cX8_heights 6 = .ok (.istore_n 3, 1) := by decide +kernel
theorem dX8_heights_7 : decode cX8_heights 7 = .ok (.iload_n 3, 1) := by decide +kernel
theorem dX8_heights_8 : decode cX8_heights 8 = .ok (.ifCond .eq 5, 3) := by decide +kernel
theorem dX8_heights_11 : decode cX8_heights 11 = .ok (.iload_n 3, 1) := by decide +kernel
theorem dX8_heights_12 : decode cX8_heights 12 = .ok (.ireturn, 1) := by decide +kernel
theorem dX8_heights_13 : decode cX8_heights 13 = .ok (.aload_n 0, 1) := by decide +kernel
theorem dX8_heights_14 : decode cX8_heights 14 = .ok (.getfield 25, 3) := by decide +kernel
theorem dX8_heights_17 : decode cX8_heights 17 = .ok (.getfield 137, 3) := by decide +kernel
theorem dX8_heights_20 : decode cX8_heights 20 = .ok (.iload_n 1, 1) := by decide +kernel
theorem dX8_heights_21 : decode cX8_heights 21 = .ok (.aaload, 1) := by decide +kernel
theorem dX8_heights_22 : decode cX8_heights 22 = .ok (.astore 4, 2) := by decide +kernel
theorem dX8_heights_24 : decode cX8_heights 24 = .ok (.iconst 0, 1) := by decide +kernel
theorem dX8_heights_25 : decode cX8_heights 25 = .ok (.istore 5, 2) := by decide +kernel
theorem dX8_heights_27 : decode cX8_heights 27 = .ok (.iconst 0, 1) := by decide +kernel
theorem dX8_heights_28 : decode cX8_heights 28 = .ok (.istore 6, 2) := by decide +kernel
theorem dX8_heights_30 : decode cX8_heights 30 = .ok (.iload 6, 2) := by decide +kernel
theorem dX8_heights_32 : decode cX8_heights 32 = .ok (.bipush 21, 2) := by decide +kernel
theorem dX8_heights_34 : decode cX8_heights 34 = .ok (.if_icmp .ge 49, 3) := by decide +kernel
theorem dX8_heights_37 : decode cX8_heights 37 = .ok (.aload_n 0, 1) := by decide +kernel
theorem dX8_heights_38 : decode cX8_heights 38 = .ok (.getfield 11, 3) := by decide +kernel
theorem dX8_heights_41 : decode cX8_heights 41 = .ok (.iload_n 2, 1) := by decide +kernel
theorem dX8_heights_42 : decode cX8_heights 42 = .ok (.aaload, 1) := by decide +kernel
theorem dX8_heights_43 : decode cX8_heights 43 = .ok (.aload 4, 2) := by decide +kernel
theorem dX8_heights_45 : decode cX8_heights 45 = .ok (.getfield 146, 3) := by decide +kernel
theorem dX8_heights_48 : decode cX8_heights 48 = .ok (.aload 4, 2) := by decide +kernel
theorem dX8_heights_50 : decode cX8_heights 50 = .ok (.getfield 317, 3) := by decide +kernel
theorem dX8_heights_53 : decode cX8_heights 53 = .ok (.aload_n 0, 1) := by decide +kernel
theorem dX8_heights_54 : decode cX8_heights 54 = .ok (.getfield 25, 3) := by decide +kernel
theorem dX8_heights_57 : decode cX8_heights 57 = .ok (.getfield 168, 3) := by decide +kernel
theorem dX8_heights_60 : decode cX8_heights 60 = .ok (.iload 6, 2) := by decide +kernel
theorem dX8_heights_62 : decode cX8_heights 62 = .ok (.invokestatic 320, 3) := by decide +kernel
theorem dX8_heights_65 : decode cX8_heights 65 = .ok (.ifCond .eq 12, 3) := by decide +kernel
theorem dX8_heights_68 : decode cX8_heights 68 = .ok (.iload 5, 2) := by decide +kernel
theorem dX8_heights_70 : decode cX8_heights 70 = .ok (.iconst 1, 1) := by decide +kernel
theorem dX8_heights_71 : decode cX8_heights 71 = .ok (.iload 6, 2) := by decide +kernel
theorem dX8_heights_73 : decode cX8_heights 73 = .ok (.ishl, 1) := by decide +kernel
theorem dX8_heights_74 : decode cX8_heights 74 = .ok (.ior, 1) := by decide +kernel
theorem dX8_heights_75 : decode cX8_heights 75 = .ok (.istore 5, 2) := by decide +kernel
theorem dX8_heights_77 : decode cX8_heights 77 = .ok (.iinc 6 1, 3) := by decide +kernel
theorem dX8_heights_80 : decode cX8_heights 80 = .ok (.goto (-50), 3) := by decide +kernel
theorem dX8_heights_83 : decode cX8_heights 83 = .ok (.iload 5, 2) := by decide +kernel
theorem dX8_heights_85 : decode cX8_heights 85 = .ok (.ireturn, 1) := by decide +kernel
theorem dX8_broke_0 : decode cX8_broke 0 = .ok (.iload_n 2, 1) := by decide +kernel
theorem dX8_broke_1 : decode cX8_broke 1 = .ok (.invokestatic 78, 3) := by decide +kernel
theorem dX8_broke_4 : decode cX8_broke 4 = .ok (.ifCond .eq 11, 3) := by decide +kernel
theorem dX8_broke_7 : decode cX8_broke 7 = .ok (.aload_n 0, 1) := by decide +kernel
theorem dX8_broke_8 : decode cX8_broke 8 = .ok (.iload_n 1, 1) := by decide +kernel
theorem dX8_broke_9 : decode cX8_broke 9 = .ok (.invokevirtual 174, 3) := by decide +kernel
theorem dX8_broke_12 : decode cX8_broke 12 = .ok (.goto 4, 3) := by decide +kernel
theorem dX8_broke_15 : decode cX8_broke 15 = .ok (.iconst (-1), 1) := by decide +kernel
theorem dX8_broke_16 : decode cX8_broke 16 = .ok (.istore_n 3, 1) := by decide +kernel
theorem dX8_broke_17 : decode cX8_broke 17 = .ok (.iload_n 3, 1) := by decide +kernel
theorem dX8_broke_18 : decode cX8_broke 18 = .ok (.ifCond .eq 5, 3) := by decide +kernel
theorem dX8_broke_21 : decode cX8_broke 21 = .ok (.iload_n 3, 1) := by decide +kernel
theorem dX8_broke_22 : decode cX8_broke 22 = .ok (.ireturn, 1) := by decide +kernel
theorem dX8_broke_23 : decode cX8_broke 23 = .ok (.aload_n 0, 1) := by decide +kernel
theorem dX8_broke_24 : decode cX8_broke 24 = .ok (.getfield 11, 3) := by decide +kernel
theorem dX8_broke_27 : decode cX8_broke 27 = .ok (.iload_n 2, 1) := by decide +kernel
theorem dX8_broke_28 : decode cX8_broke 28 = .ok (.aaload, 1) := by decide +kernel
theorem dX8_broke_29 : decode cX8_broke 29 = .ok (.astore 4, 2) := by decide +kernel
theorem dX8_broke_31 : decode cX8_broke 31 = .ok (.aload 4, 2) := by decide +kernel
theorem dX8_broke_33 : decode cX8_broke 33 = .ok (.getfield 97, 3) := by decide +kernel
theorem dX8_broke_36 : decode cX8_broke 36 = .ok (.ifCond .ne 9, 3) := by decide +kernel
theorem dX8_broke_39 : decode cX8_broke 39 = .ok (.aload_n 0, 1) := by decide +kernel
theorem dX8_broke_40 : decode cX8_broke 40 = .ok (.iconst 1, 1) := by decide +kernel
theorem dX8_broke_41 : decode cX8_broke 41 = .ok (.invokevirtual 101, 3) := by decide +kernel
theorem dX8_broke_44 : decode cX8_broke 44 = .ok (.ireturn, 1) := by decide +kernel
theorem dX8_broke_45 : decode cX8_broke 45 = .ok (.aload 4, 2) := by decide +kernel
theorem dX8_broke_47 : decode cX8_broke 47 = .ok (.iconst 1, 1) := by decide +kernel
theorem dX8_broke_48 : decode cX8_broke 48 = .ok (.invokevirtual 324, 3) := by decide +kernel
theorem dX8_broke_51 : decode cX8_broke 51 = .ok (.ifCond .ne 9, 3) := by decide +kernel
theorem dX8_broke_54 : decode cX8_broke 54 = .ok (.aload_n 0, 1) := by decide +kernel
theorem dX8_broke_55 : decode cX8_broke 55 = .ok (.iconst 3, 1) := by decide +kernel
theorem dX8_broke_56 : decode cX8_broke 56 = .ok (.invokevirtual 101, 3) := by decide +kernel
theorem dX8_broke_59 : decode cX8_broke 59 = .ok (.ireturn, 1) := by decide +kernel
theorem dX8_broke_60 : decode cX8_broke 60 = .ok (.aload_n 0, 1) := by decide +kernel
theorem dX8_broke_61 : decode cX8_broke 61 = .ok (.getfield 25, 3) := by decide +kernel
theorem dX8_broke_64 : decode cX8_broke 64 = .ok (.getfield 137, 3) := by decide +kernel
theorem dX8_broke_67 : decode cX8_broke 67 = .ok (.iload_n 1, 1) := by decide +kernel
theorem dX8_broke_68 : decode cX8_broke 68 = .ok (.aaload, 1) := by decide +kernel
theorem dX8_broke_69 : decode cX8_broke 69 = .ok (.getfield 156, 3) := by decide +kernel
theorem dX8_broke_72 : decode cX8_broke 72 = .ok (.istore 5, 2) := by decide +kernel
theorem dX8_broke_74 : decode cX8_broke 74 = .ok (.iconst 0, 1) := by decide +kernel
theorem dX8_broke_75 : decode cX8_broke 75 = .ok (.istore 6, 2) := by decide +kernel
theorem dX8_broke_77 : decode cX8_broke 77 = .ok (.iload 6, 2) := by decide +kernel
theorem dX8_broke_79 : decode cX8_broke 79 = .ok (.aload 4, 2) := by decide +kernel
theorem dX8_broke_81 : decode cX8_broke 81 = .ok (.getfield 105, 3) := by decide +kernel
theorem dX8_broke_84 : decode cX8_broke 84 = .ok (.if_icmp .ge 53, 3) := by decide +kernel
theorem dX8_broke_87 : decode cX8_broke 87 = .ok (.aload_n 0, 1) := by decide +kernel
theorem dX8_broke_88 : decode cX8_broke 88 = .ok (.getfield 25, 3) := by decide +kernel
theorem dX8_broke_91 : decode cX8_broke 91 = .ok (.getfield 137, 3) := by decide +kernel
theorem dX8_broke_94 : decode cX8_broke 94 = .ok (.iload_n 1, 1) := by decide +kernel
theorem dX8_broke_95 : decode cX8_broke 95 = .ok (.aaload, 1) := by decide +kernel
theorem dX8_broke_96 : decode cX8_broke 96 = .ok (.getfield 146, 3) := by decide +kernel
theorem dX8_broke_99 : decode cX8_broke 99 = .ok (.iload 5, 2) := by decide +kernel
theorem dX8_broke_101 : decode cX8_broke 101 = .ok (.aload 4, 2) := by decide +kernel
theorem dX8_broke_103 : decode cX8_broke 103 = .ok (.getfield 90, 3) := by decide +kernel
theorem dX8_broke_106 : decode cX8_broke 106 = .ok (.iload 6, 2) := by decide +kernel
theorem dX8_broke_108 : decode cX8_broke 108 = .ok (.iaload, 1) := by decide +kernel
theorem dX8_broke_109 : decode cX8_broke 109 = .ok (.invokestatic 215, 3) := by decide +kernel
theorem dX8_broke_112 : decode cX8_broke 112 = .ok (.istore 5, 2) := by decide +kernel
theorem dX8_broke_114 : decode cX8_broke 114 = .ok (.iload 5, 2) := by decide +kernel
theorem dX8_broke_116 : decode cX8_broke 116 = .ok (.iconst (-1), 1) := by decide +kernel
theorem dX8_broke_117 : decode cX8_broke 117 = .ok (.if_icmp .ne 14, 3) := by decide +kernel
theorem dX8_broke_120 : decode cX8_broke 120 = .ok (.aload_n 0, 1) := by decide +kernel
theorem dX8_broke_121 : decode cX8_broke 121 = .ok (.iload 6, 2) := by decide +kernel
theorem dX8_broke_123 : decode cX8_broke 123 = .ok (.iconst 2, 1) := by decide +kernel
theorem dX8_broke_124 : decode cX8_broke 124 = .ok (.irem, 1) := by decide +kernel
theorem dX8_broke_125 : decode cX8_broke 125 = .ok (.putfield 93, 3) := by decide +kernel
theorem dX8_broke_128 : decode cX8_broke 128 = .ok (.iload 6, 2) := by decide +kernel
theorem dX8_broke_130 : decode cX8_broke 130 = .ok (.ireturn, 1) := by decide +kernel
theorem dX8_broke_131 : decode cX8_broke 131 = .ok (.iinc 6 1, 3) := by decide +kernel
theorem dX8_broke_134 : decode cX8_broke 134 = .ok (.goto (-57), 3) := by decide +kernel
theorem dX8_broke_137 : decode cX8_broke 137 = .ok (.bipush (-9), 2) := by decide +kernel
theorem dX8_broke_139 : decode cX8_broke 139 = .ok (.ireturn, 1) := by decide +kernel
theorem dX8_odds_0 : decode cX8_odds 0 = .ok (.aload_n 0, 1) := by decide +kernel
theorem dX8_odds_1 : decode cX8_odds 1 = .ok (.iload_n 1, 1) := by decide +kernel
theorem dX8_odds_2 : decode cX8_odds 2 = .ok (.iload_n 2, 1) := by decide +kernel
theorem dX8_odds_3 : decode cX8_odds 3 = .ok (.iload_n 3, 1) := by decide +kernel
theorem dX8_odds_4 : decode cX8_odds 4 = .ok (.iload 4, 2) := by decide +kernel
theorem dX8_odds_6 : decode cX8_odds 6 = .ok (.invokevirtual 327, 3) := by decide +kernel
theorem dX8_odds_9 : decode cX8_odds 9 = .ok (.istore 5, 2) := by decide +kernel
theorem dX8_odds_11 : decode cX8_odds 11 = .ok (.iload 5, 2) := by decide +kernel
theorem dX8_odds_13 : decode cX8_odds 13 = .ok (.ifCond .eq 6, 3) := by decide +kernel
theorem dX8_odds_16 : decode cX8_odds 16 = .ok (.iload 5, 2) := by decide +kernel
theorem dX8_odds_18 : decode cX8_odds 18 = .ok (.ireturn, 1) := by decide +kernel
theorem dX8_odds_19 : decode cX8_odds 19 = .ok (.aload_n 0, 1) := by decide +kernel
theorem dX8_odds_20 : decode cX8_odds 20 = .ok (.aload_n 0, 1) := by decide +kernel
theorem dX8_odds_21 : decode cX8_odds 21 = .ok (.getfield 25, 3) := by decide +kernel
theorem dX8_odds_24 : decode cX8_odds 24 = .ok (.getfield 137, 3) := by decide +kernel
theorem dX8_odds_27 : decode cX8_odds 27 = .ok (.iload_n 1, 1) := by decide +kernel
theorem dX8_odds_28 : decode cX8_odds 28 = .ok (.aaload, 1) := by decide +kernel
theorem dX8_odds_29 : decode cX8_odds 29 = .ok (.iload_n 2, 1) := by decide +kernel
theorem dX8_odds_30 : decode cX8_odds 30 = .ok (.iload_n 3, 1) := by decide +kernel
theorem dX8_odds_31 : decode cX8_odds 31 = .ok (.iload 4, 2) := by decide +kernel
theorem dX8_odds_33 : decode cX8_odds 33 = .ok (.invokevirtual 331, 3) := by decide +kernel
theorem dX8_odds_36 : decode cX8_odds 36 = .ok (.lstore 6, 2) := by decide +kernel
theorem dX8_odds_38 : decode cX8_odds 38 = .ok (.lconst 0, 1) := by decide +kernel
theorem dX8_odds_39 : decode cX8_odds 39 = .ok (.lstore 8, 2) := by decide +kernel
theorem dX8_odds_41 : decode cX8_odds 41 = .ok (.iconst 0, 1) := by decide +kernel
theorem dX8_odds_42 : decode cX8_odds 42 = .ok (.istore 10, 2) := by decide +kernel
theorem dX8_odds_44 : decode cX8_odds 44 = .ok (.iload 10, 2) := by decide +kernel
theorem dX8_odds_46 : decode cX8_odds 46 = .ok (.bipush 21, 2) := by decide +kernel
theorem dX8_odds_48 : decode cX8_odds 48 = .ok (.if_icmp .ge 24, 3) := by decide +kernel
theorem dX8_odds_51 : decode cX8_odds 51 = .ok (.lload 8, 2) := by decide +kernel
theorem dX8_odds_53 : decode cX8_odds 53 = .ok (.aload_n 0, 1) := by decide +kernel
theorem dX8_odds_54 : decode cX8_odds 54 = .ok (.getfield 56, 3) := by decide +kernel
theorem dX8_odds_57 : decode cX8_odds 57 = .ok (.getfield 240, 3) := by decide +kernel
theorem dX8_odds_60 : decode cX8_odds 60 = .ok (.iload 10, 2) := by decide +kernel
theorem dX8_odds_62 : decode cX8_odds 62 = .ok (.laload, 1) := by decide +kernel
theorem dX8_odds_63 : decode cX8_odds 63 = .ok (.ladd, 1) := by decide +kernel
theorem dX8_odds_64 : decode cX8_odds 64 = .ok (.lstore 8, 2) := by decide +kernel
theorem dX8_odds_66 : decode cX8_odds 66 = .ok (.iinc 10 1, 3) := by decide +kernel
theorem dX8_odds_69 : decode cX8_odds 69 = .ok (.goto (-25), 3) := by decide +kernel
theorem dX8_odds_72 : decode cX8_odds 72 = .ok (.aload_n 0, 1) := by decide +kernel
theorem dX8_odds_73 : decode cX8_odds 73 = .ok (.lload 8, 2) := by decide +kernel
theorem dX8_odds_75 : decode cX8_odds 75 = .ok (.lload 6, 2) := by decide +kernel
theorem dX8_odds_77 : decode cX8_odds 77 = .ok (.invokevirtual 244, 3) := by decide +kernel
theorem dX8_odds_80 : decode cX8_odds 80 = .ok (.ireturn, 1) := by decide +kernel
theorem dX8_mid_0 : decode cX8_mid 0 = .ok (.aload_n 0, 1) := by decide +kernel
theorem dX8_mid_1 : decode cX8_mid 1 = .ok (.iload_n 1, 1) := by decide +kernel
theorem dX8_mid_2 : decode cX8_mid 2 = .ok (.iload_n 2, 1) := by decide +kernel
theorem dX8_mid_3 : decode cX8_mid 3 = .ok (.iload_n 3, 1) := by decide +kernel
theorem dX8_mid_4 : decode cX8_mid 4 = .ok (.iload 4, 2) := by decide +kernel
theorem dX8_mid_6 : decode cX8_mid 6 = .ok (.invokevirtual 327, 3) := by decide +kernel
theorem dX8_mid_9 : decode cX8_mid 9 = .ok (.istore 5, 2) := by decide +kernel
theorem dX8_mid_11 : decode cX8_mid 11 = .ok (.iload 5, 2) := by decide +kernel
theorem dX8_mid_13 : decode cX8_mid 13 = .ok (.ifCond .eq 6, 3) := by decide +kernel
theorem dX8_mid_16 : decode cX8_mid 16 = .ok (.iload 5, 2) := by decide +kernel
theorem dX8_mid_18 : decode cX8_mid 18 = .ok (.ireturn, 1) := by decide +kernel
theorem dX8_mid_19 : decode cX8_mid 19 = .ok (.aload_n 0, 1) := by decide +kernel
theorem dX8_mid_20 : decode cX8_mid 20 = .ok (.aload_n 0, 1) := by decide +kernel
theorem dX8_mid_21 : decode cX8_mid 21 = .ok (.getfield 25, 3) := by decide +kernel
theorem dX8_mid_24 : decode cX8_mid 24 = .ok (.getfield 137, 3) := by decide +kernel
theorem dX8_mid_27 : decode cX8_mid 27 = .ok (.iload_n 1, 1) := by decide +kernel
theorem dX8_mid_28 : decode cX8_mid 28 = .ok (.aaload, 1) := by decide +kernel
theorem dX8_mid_29 : decode cX8_mid 29 = .ok (.iload_n 2, 1) := by decide +kernel
theorem dX8_mid_30 : decode cX8_mid 30 = .ok (.iload_n 3, 1) := by decide +kernel
theorem dX8_mid_31 : decode cX8_mid 31 = .ok (.iload 4, 2) := by decide +kernel
theorem dX8_mid_33 : decode cX8_mid 33 = .ok (.invokevirtual 331, 3) := by decide +kernel
theorem dX8_mid_36 : decode cX8_mid 36 = .ok (.lstore 6, 2) := by decide +kernel
theorem dX8_mid_38 : decode cX8_mid 38 = .ok (.lconst 0, 1) := by decide +kernel
theorem dX8_mid_39 : decode cX8_mid 39 = .ok (.lstore 8, 2) := by decide +kernel
theorem dX8_mid_41 : decode cX8_mid 41 = .ok (.iconst 0, 1) := by decide +kernel
theorem dX8_mid_42 : decode cX8_mid 42 = .ok (.istore 10, 2) := by decide +kernel
theorem dX8_mid_44 : decode cX8_mid 44 = .ok (.iload 10, 2) := by decide +kernel
theorem dX8_mid_46 : decode cX8_mid 46 = .ok (.bipush 21, 2) := by decide +kernel
theorem dX8_mid_48 : decode cX8_mid 48 = .ok (.if_icmp .ge 28, 3) := by decide +kernel
theorem dX8_mid_51 : decode cX8_mid 51 = .ok (.lload 8, 2) := by decide +kernel
theorem dX8_mid_53 : decode cX8_mid 53 = .ok (.aload_n 0, 1) := by decide +kernel
theorem dX8_mid_54 : decode cX8_mid 54 = .ok (.getfield 56, 3) := by decide +kernel
theorem dX8_mid_57 : decode cX8_mid 57 = .ok (.getfield 240, 3) := by decide +kernel
theorem dX8_mid_60 : decode cX8_mid 60 = .ok (.iload 10, 2) := by decide +kernel
theorem dX8_mid_62 : decode cX8_mid 62 = .ok (.laload, 1) := by decide +kernel
theorem dX8_mid_63 : decode cX8_mid 63 = .ok (.iload 10, 2) := by decide +kernel
theorem dX8_mid_65 : decode cX8_mid 65 = .ok (.i2l, 1) := by decide +kernel
theorem dX8_mid_66 : decode cX8_mid 66 = .ok (.lmul, 1) := by decide +kernel
theorem dX8_mid_67 : decode cX8_mid 67 = .ok (.ladd, 1) := by decide +kernel
theorem dX8_mid_68 : decode cX8_mid 68 = .ok (.lstore 8, 2) := by decide +kernel
theorem dX8_mid_70 : decode cX8_mid 70 = .ok (.iinc 10 1, 3) := by decide +kernel
theorem dX8_mid_73 : decode cX8_mid 73 = .ok (.goto (-29), 3) := by decide +kernel
theorem dX8_mid_76 : decode cX8_mid 76 = .ok (.aload_n 0, 1) := by decide +kernel
theorem dX8_mid_77 : decode cX8_mid 77 = .ok (.lload 8, 2) := by decide +kernel
theorem dX8_mid_79 : decode cX8_mid 79 = .ok (.lload 6, 2) := by decide +kernel
theorem dX8_mid_81 : decode cX8_mid 81 = .ok (.invokevirtual 244, 3) := by decide +kernel
theorem dX8_mid_84 : decode cX8_mid 84 = .ok (.ireturn, 1) := by decide +kernel
theorem dX8_lots_0 : decode cX8_lots 0 = .ok (.iload_n 1, 1) := by decide +kernel
theorem dX8_lots_1 : decode cX8_lots 1 = .ok (.iconst 1, 1) := by decide +kernel
theorem dX8_lots_2 : decode cX8_lots 2 = .ok (.if_icmp .lt 21, 3) := by decide +kernel
theorem dX8_lots_5 : decode cX8_lots 5 = .ok (.iload_n 1, 1) := by decide +kernel
theorem dX8_lots_6 : decode cX8_lots 6 = .ok (.bipush 20, 2) := by decide +kernel
theorem dX8_lots_8 : decode cX8_lots 8 = .ok (.if_icmp .gt 15, 3) := by decide +kernel
theorem dX8_lots_11 : decode cX8_lots 11 = .ok (.iload_n 2, 1) := by decide +kernel
theorem dX8_lots_12 : decode cX8_lots 12 = .ok (.iconst 1, 1) := by decide +kernel
theorem dX8_lots_13 : decode cX8_lots 13 = .ok (.if_icmp .lt 10, 3) := by decide +kernel
theorem dX8_lots_16 : decode cX8_lots 16 = .ok (.iload_n 2, 1) := by decide +kernel
theorem dX8_lots_17 : decode cX8_lots 17 = .ok (.ldc_w 335, 3) := by decide +kernel
theorem dX8_lots_20 : decode cX8_lots 20 = .ok (.if_icmp .le 5, 3) := by decide +kernel
theorem dX8_lots_23 : decode cX8_lots 23 = .ok (.iconst (-1), 1) := by decide +kernel
theorem dX8_lots_24 : decode cX8_lots 24 = .ok (.ireturn, 1) := by decide +kernel
theorem dX8_lots_25 : decode cX8_lots 25 = .ok (.aload_n 0, 1) := by decide +kernel
theorem dX8_lots_26 : decode cX8_lots 26 = .ok (.getfield 25, 3) := by decide +kernel
theorem dX8_lots_29 : decode cX8_lots 29 = .ok (.getfield 135, 3) := by decide +kernel
theorem dX8_lots_32 : decode cX8_lots 32 = .ok (.ifCond .ne 6, 3) := by decide +kernel
theorem dX8_lots_35 : decode cX8_lots 35 = .ok (.bipush (-4), 2) := by decide +kernel
theorem dX8_lots_37 : decode cX8_lots 37 = .ok (.ireturn, 1) := by decide +kernel
theorem dX8_lots_38 : decode cX8_lots 38 = .ok (.aload_n 0, 1) := by decide +kernel
theorem dX8_lots_39 : decode cX8_lots 39 = .ok (.getfield 25, 3) := by decide +kernel
theorem dX8_lots_42 : decode cX8_lots 42 = .ok (.invokevirtual 177, 3) := by decide +kernel
theorem dX8_lots_45 : decode cX8_lots 45 = .ok (.iload_n 1, 1) := by decide +kernel
theorem dX8_lots_46 : decode cX8_lots 46 = .ok (.if_icmp .ge 6, 3) := by decide +kernel
theorem dX8_lots_49 : decode cX8_lots 49 = .ok (.bipush (-2), 2) := by decide +kernel
theorem dX8_lots_51 : decode cX8_lots 51 = .ok (.ireturn, 1) := by decide +kernel
theorem dX8_lots_52 : decode cX8_lots 52 = .ok (.iload_n 2, 1) := by decide +kernel
theorem dX8_lots_53 : decode cX8_lots 53 = .ok (.i2l, 1) := by decide +kernel
theorem dX8_lots_54 : decode cX8_lots 54 = .ok (.lstore_n 3, 1) := by decide +kernel
theorem dX8_lots_55 : decode cX8_lots 55 = .ok (.iconst 0, 1) := by decide +kernel
theorem dX8_lots_56 : decode cX8_lots 56 = .ok (.istore 5, 2) := by decide +kernel
theorem dX8_lots_58 : decode cX8_lots 58 = .ok (.iload 5, 2) := by decide +kernel
theorem dX8_lots_60 : decode cX8_lots 60 = .ok (.iload_n 1, 1) := by decide +kernel
theorem dX8_lots_61 : decode cX8_lots 61 = .ok (.if_icmp .ge 97, 3) := by decide +kernel
theorem dX8_lots_64 : decode cX8_lots 64 = .ok (.bipush 48, 2) := by decide +kernel
theorem dX8_lots_66 : decode cX8_lots 66 = .ok (.istore 6, 2) := by decide +kernel
theorem dX8_lots_68 : decode cX8_lots 68 = .ok (.iconst 1, 1) := by decide +kernel
theorem dX8_lots_69 : decode cX8_lots 69 = .ok (.istore 7, 2) := by decide +kernel
theorem dX8_lots_71 : decode cX8_lots 71 = .ok (.iconst 0, 1) := by decide +kernel
theorem dX8_lots_72 : decode cX8_lots 72 = .ok (.istore 8, 2) := by decide +kernel
theorem dX8_lots_74 : decode cX8_lots 74 = .ok (.iload 8, 2) := by decide +kernel
theorem dX8_lots_76 : decode cX8_lots 76 = .ok (.aload_n 0, 1) := by decide +kernel
theorem dX8_lots_77 : decode cX8_lots 77 = .ok (.getfield 25, 3) := by decide +kernel
theorem dX8_lots_80 : decode cX8_lots 80 = .ok (.getfield 135, 3) := by decide +kernel
theorem dX8_lots_83 : decode cX8_lots 83 = .ok (.if_icmp .ge 60, 3) := by decide +kernel
theorem dX8_lots_86 : decode cX8_lots 86 = .ok (.aload_n 0, 1) := by decide +kernel
theorem dX8_lots_87 : decode cX8_lots 87 = .ok (.getfield 25, 3) := by decide +kernel
theorem dX8_lots_90 : decode cX8_lots 90 = .ok (.getfield 137, 3) := by decide +kernel
theorem dX8_lots_93 : decode cX8_lots 93 = .ok (.iload 8, 2) := by decide +kernel
theorem dX8_lots_95 : decode cX8_lots 95 = .ok (.aaload, 1) := by decide +kernel
theorem dX8_lots_96 : decode cX8_lots 96 = .ok (.getfield 200, 3) := by decide +kernel
theorem dX8_lots_99 : decode cX8_lots 99 = .ok (.ifCond .ne 31, 3) := by decide +kernel
theorem dX8_lots_102 : decode cX8_lots 102 = .ok (.lload_n 3, 1) := by decide +kernel
theorem dX8_lots_103 : decode cX8_lots 103 = .ok (.ldc2_w 336, 3) := by decide +kernel
theorem dX8_lots_106 : decode cX8_lots 106 = .ok (.lmul, 1) := by decide +kernel
theorem dX8_lots_107 : decode cX8_lots 107 = .ok (.ldc2_w 338, 3) := by decide +kernel
theorem dX8_lots_110 : decode cX8_lots 110 = .ok (.lrem, 1) := by decide +kernel
theorem dX8_lots_111 : decode cX8_lots 111 = .ok (.lstore_n 3, 1) := by decide +kernel
theorem dX8_lots_112 : decode cX8_lots 112 = .ok (.iload 6, 2) := by decide +kernel
theorem dX8_lots_114 : decode cX8_lots 114 = .ok (.lload_n 3, 1) := by decide +kernel
theorem dX8_lots_115 : decode cX8_lots 115 = .ok (.ldc2_w 340, 3) := by decide +kernel
theorem dX8_lots_118 : decode cX8_lots 118 = .ok (.ldiv, 1) := by decide +kernel
theorem dX8_lots_119 : decode cX8_lots 119 = .ok (.ldc2_w 342, 3) := by decide +kernel
theorem dX8_lots_122 : decode cX8_lots 122 = .ok (.lrem, 1) := by decide +kernel
theorem dX8_lots_123 : decode cX8_lots 123 = .ok (.l2i, 1) := by decide +kernel
theorem dX8_lots_124 : decode cX8_lots 124 = .ok (.iload 7, 2) := by decide +kernel
theorem dX8_lots_126 : decode cX8_lots 126 = .ok (.imul, 1) := by decide +kernel
theorem dX8_lots_127 : decode cX8_lots 127 = .ok (.iadd, 1) := by decide +kernel
theorem dX8_lots_128 : decode cX8_lots 128 = .ok (.istore 6, 2) := by decide +kernel
theorem dX8_lots_130 : decode cX8_lots 130 = .ok (.iload 7, 2) := by decide +kernel
theorem dX8_lots_132 : decode cX8_lots 132 = .ok (.bipush 7, 2) := by decide +kernel
theorem dX8_lots_134 : decode cX8_lots 134 = .ok (.imul, 1) := by decide +kernel
theorem dX8_lots_135 : decode cX8_lots 135 = .ok (.istore 7, 2) := by decide +kernel
theorem dX8_lots_137 : decode cX8_lots 137 = .ok (.iinc 8 1, 3) := by decide +kernel
theorem dX8_lots_140 : decode cX8_lots 140 = .ok (.goto (-66), 3) := by decide +kernel
theorem dX8_lots_143 : decode cX8_lots 143 = .ok (.aload_n 0, 1) := by decide +kernel
theorem dX8_lots_144 : decode cX8_lots 144 = .ok (.getfield 25, 3) := by decide +kernel
theorem dX8_lots_147 : decode cX8_lots 147 = .ok (.iload 6, 2) := by decide +kernel
theorem dX8_lots_149 : decode cX8_lots 149 = .ok (.invokevirtual 184, 3) := by decide +kernel
theorem dX8_lots_152 : decode cX8_lots 152 = .ok (.iinc 5 1, 3) := by decide +kernel
theorem dX8_lots_155 : decode cX8_lots 155 = .ok (.goto (-97), 3) := by decide +kernel
theorem dX8_lots_158 : decode cX8_lots 158 = .ok (.aload_n 0, 1) := by decide +kernel
theorem dX8_lots_159 : decode cX8_lots 159 = .ok (.getfield 25, 3) := by decide +kernel
theorem dX8_lots_162 : decode cX8_lots 162 = .ok (.invokevirtual 287, 3) := by decide +kernel
theorem dX8_lots_165 : decode cX8_lots 165 = .ok (.ireturn, 1) := by decide +kernel
theorem dX8_asked_0 : decode cX8_asked 0 = .ok (.aload_n 0, 1) := by decide +kernel
theorem dX8_asked_1 : decode cX8_asked 1 = .ok (.getfield 93, 3) := by decide +kernel
theorem dX8_asked_4 : decode cX8_asked 4 = .ok (.ireturn, 1) := by decide +kernel
theorem dX8_upper_0 : decode cX8_upper 0 = .ok (.aload_n 0, 1) := by decide +kernel
theorem dX8_upper_1 : decode cX8_upper 1 = .ok (.getfield 344, 3) := by decide +kernel
theorem dX8_upper_4 : decode cX8_upper 4 = .ok (.lreturn, 1) := by decide +kernel
theorem dX8_lower_0 : decode cX8_lower 0 = .ok (.aload_n 0, 1) := by decide +kernel
theorem dX8_lower_1 : decode cX8_lower 1 = .ok (.getfield 71, 3) := by decide +kernel
theorem dX8_lower_4 : decode cX8_lower 4 = .ok (.lreturn, 1) := by decide +kernel
theorem dX8_count_0 : decode cX8_count 0 = .ok (.iload_n 1, 1) := by decide +kernel
theorem dX8_count_1 : decode cX8_count 1 = .ok (.tableswitch 128 0 8 #[51, 59, 67, 75, 91, 99, 107, 115, 123], 51) := by decide +kernel
theorem dX8_count_52 : decode cX8_count 52 = .ok (.aload_n 0, 1) := by decide +kernel
theorem dX8_count_53 : decode cX8_count 53 = .ok (.getfield 25, 3) := by decide +kernel
theorem dX8_count_56 : decode cX8_count 56 = .ok (.getfield 135, 3) := by decide +kernel
theorem dX8_count_59 : decode cX8_count 59 = .ok (.ireturn, 1) := by decide +kernel
theorem dX8_count_60 : decode cX8_count 60 = .ok (.aload_n 0, 1) := by decide +kernel
theorem dX8_count_61 : decode cX8_count 61 = .ok (.getfield 25, 3) := by decide +kernel
theorem dX8_count_64 : decode cX8_count 64 = .ok (.getfield 168, 3) := by decide +kernel
theorem dX8_count_67 : decode cX8_count 67 = .ok (.ireturn, 1) := by decide +kernel
theorem dX8_count_68 : decode cX8_count 68 = .ok (.aload_n 0, 1) := by decide +kernel
theorem dX8_count_69 : decode cX8_count 69 = .ok (.getfield 25, 3) := by decide +kernel
theorem dX8_count_72 : decode cX8_count 72 = .ok (.getfield 206, 3) := by decide +kernel
theorem dX8_count_75 : decode cX8_count 75 = .ok (.ireturn, 1) := by decide +kernel
theorem dX8_count_76 : decode cX8_count 76 = .ok (.aload_n 0, 1) := by decide +kernel
theorem dX8_count_77 : decode cX8_count 77 = .ok (.getfield 25, 3) := by decide +kernel
theorem dX8_count_80 : decode cX8_count 80 = .ok (.getfield 135, 3) := by decide +kernel
theorem dX8_count_83 : decode cX8_count 83 = .ok (.aload_n 0, 1) := by decide +kernel
theorem dX8_count_84 : decode cX8_count 84 = .ok (.getfield 25, 3) := by decide +kernel
theorem dX8_count_87 : decode cX8_count 87 = .ok (.invokevirtual 287, 3) := by decide +kernel
theorem dX8_count_90 : decode cX8_count 90 = .ok (.isub, 1) := by decide +kernel
theorem dX8_count_91 : decode cX8_count 91 = .ok (.ireturn, 1) := by decide +kernel
theorem dX8_count_92 : decode cX8_count 92 = .ok (.aload_n 0, 1) := by decide +kernel
theorem dX8_count_93 : decode cX8_count 93 = .ok (.getfield 25, 3) := by decide +kernel
theorem dX8_count_96 : decode cX8_count 96 = .ok (.invokevirtual 347, 3) := by decide +kernel
theorem dX8_count_99 : decode cX8_count 99 = .ok (.ireturn, 1) := by decide +kernel
theorem dX8_count_100 : decode cX8_count 100 = .ok (.aload_n 0, 1) := by decide +kernel
theorem dX8_count_101 : decode cX8_count 101 = .ok (.getfield 25, 3) := by decide +kernel
theorem dX8_count_104 : decode cX8_count 104 = .ok (.invokevirtual 350, 3) := by decide +kernel
theorem dX8_count_107 : decode cX8_count 107 = .ok (.ireturn, 1) := by decide +kernel
theorem dX8_count_108 : decode cX8_count 108 = .ok (.aload_n 0, 1) := by decide +kernel
theorem dX8_count_109 : decode cX8_count 109 = .ok (.getfield 11, 3) := by decide +kernel
theorem dX8_count_112 : decode cX8_count 112 = .ok (.invokestatic 353, 3) := by decide +kernel
theorem dX8_count_115 : decode cX8_count 115 = .ok (.ireturn, 1) := by decide +kernel
theorem dX8_count_116 : decode cX8_count 116 = .ok (.aload_n 0, 1) := by decide +kernel
theorem dX8_count_117 : decode cX8_count 117 = .ok (.getfield 15, 3) := by decide +kernel
theorem dX8_count_120 : decode cX8_count 120 = .ok (.invokestatic 353, 3) := by decide +kernel
theorem dX8_count_123 : decode cX8_count 123 = .ok (.ireturn, 1) := by decide +kernel
theorem dX8_count_124 : decode cX8_count 124 = .ok (.aload_n 0, 1) := by decide +kernel
theorem dX8_count_125 : decode cX8_count 125 = .ok (.invokevirtual 357, 3) := by decide +kernel
theorem dX8_count_128 : decode cX8_count 128 = .ok (.ireturn, 1) := by decide +kernel
theorem dX8_count_129 : decode cX8_count 129 = .ok (.iconst (-1), 1) := by decide +kernel
theorem dX8_count_130 : decode cX8_count 130 = .ok (.ireturn, 1) := by decide +kernel
theorem dX8_finding_0 : decode cX8_finding 0 = .ok (.aload_n 0, 1) := by decide +kernel
theorem dX8_finding_1 : decode cX8_finding 1 = .ok (.getfield 360, 3) := by decide +kernel
theorem dX8_finding_4 : decode cX8_finding 4 = .ok (.ireturn, 1) := by decide +kernel
theorem dX8_findings_0 : decode cX8_findings 0 = .ok (.iload_n 1, 1) := by decide +kernel
theorem dX8_findings_1 : decode cX8_findings 1 = .ok (.iconst 1, 1) := by decide +kernel
theorem dX8_findings_2 : decode cX8_findings 2 = .ok (.if_icmp .lt 17, 3) := by decide +kernel
theorem dX8_findings_5 : decode cX8_findings 5 = .ok (.iload_n 1, 1) := by decide +kernel
theorem dX8_findings_6 : decode cX8_findings 6 = .ok (.iconst 5, 1) := by decide +kernel
theorem dX8_findings_7 : decode cX8_findings 7 = .ok (.if_icmp .gt 12, 3) := by decide +kernel
theorem dX8_findings_10 : decode cX8_findings 10 = .ok (.aload_n 0, 1) := by decide +kernel
theorem dX8_findings_11 : decode cX8_findings 11 = .ok (.getfield 67, 3) := by decide +kernel
theorem dX8_findings_14 : decode cX8_findings 14 = .ok (.iload_n 1, 1) := by decide +kernel
theorem dX8_findings_15 : decode cX8_findings 15 = .ok (.iaload, 1) := by decide +kernel
theorem dX8_findings_16 : decode cX8_findings 16 = .ok (.goto 4, 3) := by decide +kernel
theorem dX8_findings_19 : decode cX8_findings 19 = .ok (.iconst (-1), 1) := by decide +kernel
theorem dX8_findings_20 : decode cX8_findings 20 = .ok (.ireturn, 1) := by decide +kernel
theorem dX8_digest_0 : decode cX8_digest 0 = .ok (.ldc2_w 363, 3) := by decide +kernel
theorem dX8_digest_3 : decode cX8_digest 3 = .ok (.lstore_n 1, 1) := by decide +kernel
theorem dX8_digest_4 : decode cX8_digest 4 = .ok (.iconst 0, 1) := by decide +kernel
theorem dX8_digest_5 : decode cX8_digest 5 = .ok (.istore_n 3, 1) := by decide +kernel
theorem dX8_digest_6 : decode cX8_digest 6 = .ok (.iload_n 3, 1) := by decide +kernel
theorem dX8_digest_7 : decode cX8_digest 7 = .ok (.bipush 9, 2) := by decide +kernel
theorem dX8_digest_9 : decode cX8_digest 9 = .ok (.if_icmp .ge 22, 3) := by decide +kernel
theorem dX8_digest_12 : decode cX8_digest 12 = .ok (.ldc2_w 365, 3) := by decide +kernel
theorem dX8_digest_15 : decode cX8_digest 15 = .ok (.lload_n 1, 1) := by decide +kernel
theorem dX8_digest_16 : decode cX8_digest 16 = .ok (.lmul, 1) := by decide +kernel
theorem dX8_digest_17 : decode cX8_digest 17 = .ok (.aload_n 0, 1) := by decide +kernel
theorem dX8_digest_18 : decode cX8_digest 18 = .ok (.iload_n 3, 1) := by decide +kernel
theorem dX8_digest_19 : decode cX8_digest 19 = .ok (.invokevirtual 367, 3) := by decide +kernel
theorem dX8_digest_22 : decode cX8_digest 22 = .ok (.i2l, 1) := by decide +kernel
theorem dX8_digest_23 : decode cX8_digest 23 = .ok (.ladd, 1) := by decide +kernel
theorem dX8_digest_24 : decode cX8_digest 24 = .ok (.lstore_n 1, 1) := by decide +kernel
theorem dX8_digest_25 : decode cX8_digest 25 = .ok (.iinc 3 1, 3) := by decide +kernel
theorem dX8_digest_28 : decode cX8_digest 28 = .ok (.goto (-22), 3) := by decide +kernel
theorem dX8_digest_31 : decode cX8_digest 31 = .ok (.iconst 0, 1) := by decide +kernel
theorem dX8_digest_32 : decode cX8_digest 32 = .ok (.istore_n 3, 1) := by decide +kernel
theorem dX8_digest_33 : decode cX8_digest 33 = .ok (.iload_n 3, 1) := by decide +kernel
theorem dX8_digest_34 : decode cX8_digest 34 = .ok (.aload_n 0, 1) := by decide +kernel
theorem dX8_digest_35 : decode cX8_digest 35 = .ok (.getfield 25, 3) := by decide +kernel
theorem dX8_digest_38 : decode cX8_digest 38 = .ok (.getfield 135, 3) := by decide +kernel
theorem dX8_digest_41 : decode cX8_digest 41 = .ok (.if_icmp .ge 47, 3) := by decide +kernel
theorem dX8_digest_44 : decode cX8_digest 44 = .ok (.iconst 0, 1) := by decide +kernel
theorem dX8_digest_45 : decode cX8_digest 45 = .ok (.istore 4, 2) := by decide +kernel
theorem dX8_digest_47 : decode cX8_digest 47 = .ok (.iload 4, 2) := by decide +kernel
theorem dX8_digest_49 : decode cX8_digest 49 = .ok (.bipush 6, 2) := by decide +kernel
theorem dX8_digest_51 : decode cX8_digest 51 = .ok (.if_icmp .ge 31, 3) := by decide +kernel
theorem dX8_digest_54 : decode cX8_digest 54 = .ok (.ldc2_w 365, 3) := by decide +kernel
theorem dX8_digest_57 : decode cX8_digest 57 = .ok (.lload_n 1, 1) := by decide +kernel
theorem dX8_digest_58 : decode cX8_digest 58 = .ok (.lmul, 1) := by decide +kernel
theorem dX8_digest_59 : decode cX8_digest 59 = .ok (.aload_n 0, 1) := by decide +kernel
theorem dX8_digest_60 : decode cX8_digest 60 = .ok (.getfield 25, 3) := by decide +kernel
theorem dX8_digest_63 : decode cX8_digest 63 = .ok (.getfield 137, 3) := by decide +kernel
theorem dX8_digest_66 : decode cX8_digest 66 = .ok (.iload_n 3, 1) := by decide +kernel
theorem dX8_digest_67 : decode cX8_digest 67 = .ok (.aaload, 1) := by decide +kernel
theorem dX8_digest_68 : decode cX8_digest 68 = .ok (.iload 4, 2) := by decide +kernel
theorem dX8_digest_70 : decode cX8_digest 70 = .ok (.invokevirtual 141, 3) := by decide +kernel
theorem dX8_digest_73 : decode cX8_digest 73 = .ok (.i2l, 1) := by decide +kernel
theorem dX8_digest_74 : decode cX8_digest 74 = .ok (.ladd, 1) := by decide +kernel
theorem dX8_digest_75 : decode cX8_digest 75 = .ok (.lstore_n 1, 1) := by decide +kernel
theorem dX8_digest_76 : decode cX8_digest 76 = .ok (.iinc 4 1, 3) := by decide +kernel
theorem dX8_digest_79 : decode cX8_digest 79 = .ok (.goto (-32), 3) := by decide +kernel
theorem dX8_digest_82 : decode cX8_digest 82 = .ok (.iinc 3 1, 3) := by decide +kernel
theorem dX8_digest_85 : decode cX8_digest 85 = .ok (.goto (-52), 3) := by decide +kernel
theorem dX8_digest_88 : decode cX8_digest 88 = .ok (.iconst 0, 1) := by decide +kernel
theorem dX8_digest_89 : decode cX8_digest 89 = .ok (.istore_n 3, 1) := by decide +kernel
theorem dX8_digest_90 : decode cX8_digest 90 = .ok (.iload_n 3, 1) := by decide +kernel
theorem dX8_digest_91 : decode cX8_digest 91 = .ok (.iconst 3, 1) := by decide +kernel
theorem dX8_digest_92 : decode cX8_digest 92 = .ok (.if_icmp .ge 42, 3) := by decide +kernel
theorem dX8_digest_95 : decode cX8_digest 95 = .ok (.ldc2_w 365, 3) := by decide +kernel
theorem dX8_digest_98 : decode cX8_digest 98 = .ok (.lload_n 1, 1) := by decide +kernel
theorem dX8_digest_99 : decode cX8_digest 99 = .ok (.lmul, 1) := by decide +kernel
theorem dX8_digest_100 : decode cX8_digest 100 = .ok (.aload_n 0, 1) := by decide +kernel
theorem dX8_digest_101 : decode cX8_digest 101 = .ok (.getfield 20, 3) := by decide +kernel
theorem dX8_digest_104 : decode cX8_digest 104 = .ok (.iload_n 3, 1) := by decide +kernel
theorem dX8_digest_105 : decode cX8_digest 105 = .ok (.aaload, 1) := by decide +kernel
theorem dX8_digest_106 : decode cX8_digest 106 = .ok (.getfield 135, 3) := by decide +kernel
theorem dX8_digest_109 : decode cX8_digest 109 = .ok (.ifCond .ne 7, 3) := by decide +kernel
theorem dX8_digest_112 : decode cX8_digest 112 = .ok (.iconst (-1), 1) := by decide +kernel
theorem dX8_digest_113 : decode cX8_digest 113 = .ok (.goto 12, 3) := by decide +kernel
theorem dX8_digest_116 : decode cX8_digest 116 = .ok (.aload_n 0, 1) := by decide +kernel
theorem dX8_digest_117 : decode cX8_digest 117 = .ok (.getfield 20, 3) := by decide +kernel
theorem dX8_digest_120 : decode cX8_digest 120 = .ok (.iload_n 3, 1) := by decide +kernel
theorem dX8_digest_121 : decode cX8_digest 121 = .ok (.aaload, 1) := by decide +kernel
theorem dX8_digest_122 : decode cX8_digest 122 = .ok (.getfield 206, 3) := by decide +kernel
theorem dX8_digest_125 : decode cX8_digest 125 = .ok (.i2l, 1) := by decide +kernel
theorem dX8_digest_126 : decode cX8_digest 126 = .ok (.ladd, 1) := by decide +kernel
theorem dX8_digest_127 : decode cX8_digest 127 = .ok (.lstore_n 1, 1) := by decide +kernel
theorem dX8_digest_128 : decode cX8_digest 128 = .ok (.iinc 3 1, 3) := by decide +kernel
theorem dX8_digest_131 : decode cX8_digest 131 = .ok (.goto (-41), 3) := by decide +kernel
theorem dX8_digest_134 : decode cX8_digest 134 = .ok (.iconst 0, 1) := by decide +kernel
theorem dX8_digest_135 : decode cX8_digest 135 = .ok (.istore_n 3, 1) := by decide +kernel
theorem dX8_digest_136 : decode cX8_digest 136 = .ok (.iload_n 3, 1) := by decide +kernel
theorem dX8_digest_137 : decode cX8_digest 137 = .ok (.bipush 6, 2) := by decide +kernel
theorem dX8_digest_139 : decode cX8_digest 139 = .ok (.if_icmp .ge 20, 3) := by decide +kernel
theorem dX8_digest_142 : decode cX8_digest 142 = .ok (.aload_n 0, 1) := by decide +kernel
theorem dX8_digest_143 : decode cX8_digest 143 = .ok (.getfield 11, 3) := by decide +kernel
theorem dX8_digest_146 : decode cX8_digest 146 = .ok (.iload_n 3, 1) := by decide +kernel
theorem dX8_digest_147 : decode cX8_digest 147 = .ok (.aaload, 1) := by decide +kernel
theorem dX8_digest_148 : decode cX8_digest 148 = .ok (.lload_n 1, 1) := by decide +kernel
theorem dX8_digest_149 : decode cX8_digest 149 = .ok (.invokevirtual 370, 3) := by decide +kernel
theorem dX8_digest_152 : decode cX8_digest 152 = .ok (.lstore_n 1, 1) := by decide +kernel
theorem dX8_digest_153 : decode cX8_digest 153 = .ok (.iinc 3 1, 3) := by decide +kernel
theorem dX8_digest_156 : decode cX8_digest 156 = .ok (.goto (-20), 3) := by decide +kernel
theorem dX8_digest_159 : decode cX8_digest 159 = .ok (.iconst 0, 1) := by decide +kernel
theorem dX8_digest_160 : decode cX8_digest 160 = .ok (.istore_n 3, 1) := by decide +kernel
theorem dX8_digest_161 : decode cX8_digest 161 = .ok (.iload_n 3, 1) := by decide +kernel
theorem dX8_digest_162 : decode cX8_digest 162 = .ok (.iconst 4, 1) := by decide +kernel
theorem dX8_digest_163 : decode cX8_digest 163 = .ok (.if_icmp .ge 20, 3) := by decide +kernel
theorem dX8_digest_166 : decode cX8_digest 166 = .ok (.aload_n 0, 1) := by decide +kernel
theorem dX8_digest_167 : decode cX8_digest 167 = .ok (.getfield 15, 3) := by decide +kernel
theorem dX8_digest_170 : decode cX8_digest 170 = .ok (.iload_n 3, 1) := by decide +kernel
theorem dX8_digest_171 : decode cX8_digest 171 = .ok (.aaload, 1) := by decide +kernel
theorem dX8_digest_172 : decode cX8_digest 172 = .ok (.lload_n 1, 1) := by decide +kernel
theorem dX8_digest_173 : decode cX8_digest 173 = .ok (.invokevirtual 370, 3) := by decide +kernel
theorem dX8_digest_176 : decode cX8_digest 176 = .ok (.lstore_n 1, 1) := by decide +kernel
theorem dX8_digest_177 : decode cX8_digest 177 = .ok (.iinc 3 1, 3) := by decide +kernel
theorem dX8_digest_180 : decode cX8_digest 180 = .ok (.goto (-19), 3) := by decide +kernel
theorem dX8_digest_183 : decode cX8_digest 183 = .ok (.lload_n 1, 1) := by decide +kernel
theorem dX8_digest_184 : decode cX8_digest 184 = .ok (.lreturn, 1) := by decide +kernel
theorem dX8_find_0 : decode cX8_find 0 = .ok (.aload_n 0, 1) := by decide +kernel
theorem dX8_find_1 : decode cX8_find 1 = .ok (.iload_n 1, 1) := by decide +kernel
theorem dX8_find_2 : decode cX8_find 2 = .ok (.putfield 360, 3) := by decide +kernel
theorem dX8_find_5 : decode cX8_find 5 = .ok (.iload_n 1, 1) := by decide +kernel
theorem dX8_find_6 : decode cX8_find 6 = .ok (.ifCond .lt 22, 3) := by decide +kernel
theorem dX8_find_9 : decode cX8_find 9 = .ok (.iload_n 1, 1) := by decide +kernel
theorem dX8_find_10 : decode cX8_find 10 = .ok (.aload_n 0, 1) := by decide +kernel
theorem dX8_find_11 : decode cX8_find 11 = .ok (.getfield 67, 3) := by decide +kernel
theorem dX8_find_14 : decode cX8_find 14 = .ok (.arraylength, 1) := by decide +kernel
theorem dX8_find_15 : decode cX8_find 15 = .ok (.if_icmp .ge 13, 3) := by decide +kernel
theorem dX8_find_18 : decode cX8_find 18 = .ok (.aload_n 0, 1) := by decide +kernel
theorem dX8_find_19 : decode cX8_find 19 = .ok (.getfield 67, 3) := by decide +kernel
theorem dX8_find_22 : decode cX8_find 22 = .ok (.iload_n 1, 1) := by decide +kernel
theorem dX8_find_23 : decode cX8_find 23 = .ok (.dup2, 1) := by decide +kernel
theorem dX8_find_24 : decode cX8_find 24 = .ok (.iaload, 1) := by decide +kernel
theorem dX8_find_25 : decode cX8_find 25 = .ok (.iconst 1, 1) := by decide +kernel
theorem dX8_find_26 : decode cX8_find 26 = .ok (.iadd, 1) := by decide +kernel
theorem dX8_find_27 : decode cX8_find 27 = .ok (.iastore, 1) := by decide +kernel
theorem dX8_find_28 : decode cX8_find 28 = .ok (.bipush (-3), 2) := by decide +kernel
theorem dX8_find_30 : decode cX8_find 30 = .ok (.ireturn, 1) := by decide +kernel
theorem dX8_refusePlace_0 : decode cX8_refusePlace 0 = .ok (.iload_n 1, 1) := by decide +kernel
theorem dX8_refusePlace_1 : decode cX8_refusePlace 1 = .ok (.invokestatic 78, 3) := by decide +kernel
theorem dX8_refusePlace_4 : decode cX8_refusePlace 4 = .ok (.ifCond .ne 5, 3) := by decide +kernel
theorem dX8_refusePlace_7 : decode cX8_refusePlace 7 = .ok (.iconst (-1), 1) := by decide +kernel
theorem dX8_refusePlace_8 : decode cX8_refusePlace 8 = .ok (.ireturn, 1) := by decide +kernel
theorem dX8_refusePlace_9 : decode cX8_refusePlace 9 = .ok (.aload_n 0, 1) := by decide +kernel
theorem dX8_refusePlace_10 : decode cX8_refusePlace 10 = .ok (.getfield 11, 3) := by decide +kernel
theorem dX8_refusePlace_13 : decode cX8_refusePlace 13 = .ok (.iload_n 1, 1) := by decide +kernel
theorem dX8_refusePlace_14 : decode cX8_refusePlace 14 = .ok (.aaload, 1) := by decide +kernel
theorem dX8_refusePlace_15 : decode cX8_refusePlace 15 = .ok (.getfield 97, 3) := by decide +kernel
theorem dX8_refusePlace_18 : decode cX8_refusePlace 18 = .ok (.ifCond .ne 9, 3) := by decide +kernel
theorem dX8_refusePlace_21 : decode cX8_refusePlace 21 = .ok (.aload_n 0, 1) := by decide +kernel
theorem dX8_refusePlace_22 : decode cX8_refusePlace 22 = .ok (.iconst 1, 1) := by decide +kernel
theorem dX8_refusePlace_23 : decode cX8_refusePlace 23 = .ok (.invokevirtual 101, 3) := by decide +kernel
theorem dX8_refusePlace_26 : decode cX8_refusePlace 26 = .ok (.ireturn, 1) := by decide +kernel
theorem dX8_refusePlace_27 : decode cX8_refusePlace 27 = .ok (.aload_n 0, 1) := by decide +kernel
theorem dX8_refusePlace_28 : decode cX8_refusePlace 28 = .ok (.getfield 11, 3) := by decide +kernel
theorem dX8_refusePlace_31 : decode cX8_refusePlace 31 = .ok (.iload_n 1, 1) := by decide +kernel
theorem dX8_refusePlace_32 : decode cX8_refusePlace 32 = .ok (.aaload, 1) := by decide +kernel
theorem dX8_refusePlace_33 : decode cX8_refusePlace 33 = .ok (.iload_n 2, 1) := by decide +kernel
theorem dX8_refusePlace_34 : decode cX8_refusePlace 34 = .ok (.invokevirtual 121, 3) := by decide +kernel
theorem dX8_refusePlace_37 : decode cX8_refusePlace 37 = .ok (.ifCond .eq 7, 3) := by decide +kernel
theorem dX8_refusePlace_40 : decode cX8_refusePlace 40 = .ok (.iconst 0, 1) := by decide +kernel
theorem dX8_refusePlace_41 : decode cX8_refusePlace 41 = .ok (.goto 8, 3) := by decide +kernel
theorem dX8_refusePlace_44 : decode cX8_refusePlace 44 = .ok (.aload_n 0, 1) := by decide +kernel
theorem dX8_refusePlace_45 : decode cX8_refusePlace 45 = .ok (.iconst 2, 1) := by decide +kernel
theorem dX8_refusePlace_46 : decode cX8_refusePlace 46 = .ok (.invokevirtual 101, 3) := by decide +kernel
theorem dX8_refusePlace_49 : decode cX8_refusePlace 49 = .ok (.ireturn, 1) := by decide +kernel
theorem dX8_refuseBell_0 : decode cX8_refuseBell 0 = .ok (.aload_n 0, 1) := by decide +kernel
theorem dX8_refuseBell_1 : decode cX8_refuseBell 1 = .ok (.getfield 25, 3) := by decide +kernel
theorem dX8_refuseBell_4 : decode cX8_refuseBell 4 = .ok (.iload_n 1, 1) := by decide +kernel
theorem dX8_refuseBell_5 : decode cX8_refuseBell 5 = .ok (.invokevirtual 136, 3) := by decide +kernel
theorem dX8_refuseBell_8 : decode cX8_refuseBell 8 = .ok (.ifCond .ne 5, 3) := by decide +kernel
theorem dX8_refuseBell_11 : decode cX8_refuseBell 11 = .ok (.iconst (-1), 1) := by decide +kernel
theorem dX8_refuseBell_12 : decode cX8_refuseBell 12 = .ok (.ireturn, 1) := by decide +kernel
theorem dX8_refuseBell_13 : decode cX8_refuseBell 13 = .ok (.aload_n 0, 1) := by decide +kernel
theorem dX8_refuseBell_14 : decode cX8_refuseBell 14 = .ok (.getfield 25, 3) := by decide +kernel
theorem dX8_refuseBell_17 : decode cX8_refuseBell 17 = .ok (.getfield 137, 3) := by decide +kernel
theorem dX8_refuseBell_20 : decode cX8_refuseBell 20 = .ok (.iload_n 1, 1) := by decide +kernel
theorem dX8_refuseBell_21 : decode cX8_refuseBell 21 = .ok (.aaload, 1) := by decide +kernel
theorem dX8_refuseBell_22 : decode cX8_refuseBell 22 = .ok (.getfield 200, 3) := by decide +kernel
theorem dX8_refuseBell_25 : decode cX8_refuseBell 25 = .ok (.ifCond .eq 8, 3) := by decide +kernel
theorem dX8_refuseBell_28 : decode cX8_refuseBell 28 = .ok (.bipush (-4), 2) := by decide +kernel
theorem dX8_refuseBell_30 : decode cX8_refuseBell 30 = .ok (.goto 4, 3) := by decide +kernel
theorem dX8_refuseBell_33 : decode cX8_refuseBell 33 = .ok (.iconst 0, 1) := by decide +kernel
theorem dX8_refuseBell_34 : decode cX8_refuseBell 34 = .ok (.ireturn, 1) := by decide +kernel
theorem dX8_refuseRound_0 : decode cX8_refuseRound 0 = .ok (.iload_n 1, 1) := by decide +kernel
theorem dX8_refuseRound_1 : decode cX8_refuseRound 1 = .ok (.invokestatic 78, 3) := by decide +kernel
theorem dX8_refuseRound_4 : decode cX8_refuseRound 4 = .ok (.ifCond .ne 5, 3) := by decide +kernel
theorem dX8_refuseRound_7 : decode cX8_refuseRound 7 = .ok (.iconst (-1), 1) := by decide +kernel
theorem dX8_refuseRound_8 : decode cX8_refuseRound 8 = .ok (.ireturn, 1) := by decide +kernel
theorem dX8_refuseRound_9 : decode cX8_refuseRound 9 = .ok (.aload_n 0, 1) := by decide +kernel
theorem dX8_refuseRound_10 : decode cX8_refuseRound 10 = .ok (.getfield 25, 3) := by decide +kernel
theorem dX8_refuseRound_13 : decode cX8_refuseRound 13 = .ok (.getfield 135, 3) := by decide +kernel
theorem dX8_refuseRound_16 : decode cX8_refuseRound 16 = .ok (.ifCond .ne 6, 3) := by decide +kernel
theorem dX8_refuseRound_19 : decode cX8_refuseRound 19 = .ok (.bipush (-4), 2) := by decide +kernel
theorem dX8_refuseRound_21 : decode cX8_refuseRound 21 = .ok (.ireturn, 1) := by decide +kernel
theorem dX8_refuseRound_22 : decode cX8_refuseRound 22 = .ok (.aload_n 0, 1) := by decide +kernel
theorem dX8_refuseRound_23 : decode cX8_refuseRound 23 = .ok (.getfield 11, 3) := by decide +kernel
theorem dX8_refuseRound_26 : decode cX8_refuseRound 26 = .ok (.iload_n 1, 1) := by decide +kernel
theorem dX8_refuseRound_27 : decode cX8_refuseRound 27 = .ok (.aaload, 1) := by decide +kernel
theorem dX8_refuseRound_28 : decode cX8_refuseRound 28 = .ok (.getfield 97, 3) := by decide +kernel
theorem dX8_refuseRound_31 : decode cX8_refuseRound 31 = .ok (.ifCond .ne 9, 3) := by decide +kernel
theorem dX8_refuseRound_34 : decode cX8_refuseRound 34 = .ok (.aload_n 0, 1) := by decide +kernel
theorem dX8_refuseRound_35 : decode cX8_refuseRound 35 = .ok (.iconst 1, 1) := by decide +kernel
theorem dX8_refuseRound_36 : decode cX8_refuseRound 36 = .ok (.invokevirtual 101, 3) := by decide +kernel
theorem dX8_refuseRound_39 : decode cX8_refuseRound 39 = .ok (.ireturn, 1) := by decide +kernel
theorem dX8_refuseRound_40 : decode cX8_refuseRound 40 = .ok (.aload_n 0, 1) := by decide +kernel
theorem dX8_refuseRound_41 : decode cX8_refuseRound 41 = .ok (.getfield 11, 3) := by decide +kernel
theorem dX8_refuseRound_44 : decode cX8_refuseRound 44 = .ok (.iload_n 1, 1) := by decide +kernel
theorem dX8_refuseRound_45 : decode cX8_refuseRound 45 = .ok (.aaload, 1) := by decide +kernel
theorem dX8_refuseRound_46 : decode cX8_refuseRound 46 = .ok (.getfield 105, 3) := by decide +kernel
theorem dX8_refuseRound_49 : decode cX8_refuseRound 49 = .ok (.aload_n 0, 1) := by decide +kernel
theorem dX8_refuseRound_50 : decode cX8_refuseRound 50 = .ok (.getfield 25, 3) := by decide +kernel
theorem dX8_refuseRound_53 : decode cX8_refuseRound 53 = .ok (.getfield 135, 3) := by decide +kernel
theorem dX8_refuseRound_56 : decode cX8_refuseRound 56 = .ok (.if_icmp .eq 9, 3) := by decide +kernel
theorem dX8_refuseRound_59 : decode cX8_refuseRound 59 = .ok (.aload_n 0, 1) := by decide +kernel
theorem dX8_refuseRound_60 : decode cX8_refuseRound 60 = .ok (.iconst 5, 1) := by decide +kernel
theorem dX8_refuseRound_61 : decode cX8_refuseRound 61 = .ok (.invokevirtual 101, 3) := by decide +kernel
theorem dX8_refuseRound_64 : decode cX8_refuseRound 64 = .ok (.ireturn, 1) := by decide +kernel
theorem dX8_refuseRound_65 : decode cX8_refuseRound 65 = .ok (.aload_n 0, 1) := by decide +kernel
theorem dX8_refuseRound_66 : decode cX8_refuseRound 66 = .ok (.getfield 11, 3) := by decide +kernel
theorem dX8_refuseRound_69 : decode cX8_refuseRound 69 = .ok (.iload_n 1, 1) := by decide +kernel
theorem dX8_refuseRound_70 : decode cX8_refuseRound 70 = .ok (.aaload, 1) := by decide +kernel
theorem dX8_refuseRound_71 : decode cX8_refuseRound 71 = .ok (.iconst 1, 1) := by decide +kernel
theorem dX8_refuseRound_72 : decode cX8_refuseRound 72 = .ok (.invokevirtual 324, 3) := by decide +kernel
theorem dX8_refuseRound_75 : decode cX8_refuseRound 75 = .ok (.ifCond .eq 7, 3) := by decide +kernel
theorem dX8_refuseRound_78 : decode cX8_refuseRound 78 = .ok (.iconst 0, 1) := by decide +kernel
theorem dX8_refuseRound_79 : decode cX8_refuseRound 79 = .ok (.goto 8, 3) := by decide +kernel
theorem dX8_refuseRound_82 : decode cX8_refuseRound 82 = .ok (.aload_n 0, 1) := by decide +kernel
theorem dX8_refuseRound_83 : decode cX8_refuseRound 83 = .ok (.iconst 3, 1) := by decide +kernel
theorem dX8_refuseRound_84 : decode cX8_refuseRound 84 = .ok (.invokevirtual 101, 3) := by decide +kernel
theorem dX8_refuseRound_87 : decode cX8_refuseRound 87 = .ok (.ireturn, 1) := by decide +kernel
theorem dX8_refuseTold_0 : decode cX8_refuseTold 0 = .ok (.iload_n 2, 1) := by decide +kernel
theorem dX8_refuseTold_1 : decode cX8_refuseTold 1 = .ok (.invokestatic 78, 3) := by decide +kernel
theorem dX8_refuseTold_4 : decode cX8_refuseTold 4 = .ok (.ifCond .eq 11, 3) := by decide +kernel
theorem dX8_refuseTold_7 : decode cX8_refuseTold 7 = .ok (.aload_n 0, 1) := by decide +kernel
theorem dX8_refuseTold_8 : decode cX8_refuseTold 8 = .ok (.iload_n 1, 1) := by decide +kernel
theorem dX8_refuseTold_9 : decode cX8_refuseTold 9 = .ok (.invokevirtual 174, 3) := by decide +kernel
theorem dX8_refuseTold_12 : decode cX8_refuseTold 12 = .ok (.goto 4, 3) := by decide +kernel
theorem dX8_refuseTold_15 : decode cX8_refuseTold 15 = .ok (.iconst (-1), 1) := by decide +kernel
theorem dX8_refuseTold_16 : decode cX8_refuseTold 16 = .ok (.istore_n 3, 1) := by decide +kernel
theorem dX8_refuseTold_17 : decode cX8_refuseTold 17 = .ok (.iload_n 3, 1) := by decide +kernel
theorem dX8_refuseTold_18 : decode cX8_refuseTold 18 = .ok (.ifCond .eq 5, 3) := by decide +kernel
theorem dX8_refuseTold_21 : decode cX8_refuseTold 21 = .ok (.iload_n 3, 1) := by decide +kernel
theorem dX8_refuseTold_22 : decode cX8_refuseTold 22 = .ok (.ireturn, 1) := by decide +kernel
theorem dX8_refuseTold_23 : decode cX8_refuseTold 23 = .ok (.aload_n 0, 1) := by decide +kernel
theorem dX8_refuseTold_24 : decode cX8_refuseTold 24 = .ok (.getfield 11, 3) := by decide +kernel
theorem dX8_refuseTold_27 : decode cX8_refuseTold 27 = .ok (.iload_n 2, 1) := by decide +kernel
theorem dX8_refuseTold_28 : decode cX8_refuseTold 28 = .ok (.aaload, 1) := by decide +kernel
theorem dX8_refuseTold_29 : decode cX8_refuseTold 29 = .ok (.getfield 97, 3) := by decide +kernel
theorem dX8_refuseTold_32 : decode cX8_refuseTold 32 = .ok (.ifCond .ne 9, 3) := by decide +kernel
theorem dX8_refuseTold_35 : decode cX8_refuseTold 35 = .ok (.aload_n 0, 1) := by decide +kernel
theorem dX8_refuseTold_36 : decode cX8_refuseTold 36 = .ok (.iconst 1, 1) := by decide +kernel
theorem dX8_refuseTold_37 : decode cX8_refuseTold 37 = .ok (.invokevirtual 101, 3) := by decide +kernel
theorem dX8_refuseTold_40 : decode cX8_refuseTold 40 = .ok (.ireturn, 1) := by decide +kernel
theorem dX8_refuseTold_41 : decode cX8_refuseTold 41 = .ok (.aload_n 0, 1) := by decide +kernel
theorem dX8_refuseTold_42 : decode cX8_refuseTold 42 = .ok (.getfield 11, 3) := by decide +kernel
theorem dX8_refuseTold_45 : decode cX8_refuseTold 45 = .ok (.iload_n 2, 1) := by decide +kernel
theorem dX8_refuseTold_46 : decode cX8_refuseTold 46 = .ok (.aaload, 1) := by decide +kernel
theorem dX8_refuseTold_47 : decode cX8_refuseTold 47 = .ok (.getfield 105, 3) := by decide +kernel
theorem dX8_refuseTold_50 : decode cX8_refuseTold 50 = .ok (.iconst 2, 1) := by decide +kernel
theorem dX8_refuseTold_51 : decode cX8_refuseTold 51 = .ok (.irem, 1) := by decide +kernel
theorem dX8_refuseTold_52 : decode cX8_refuseTold 52 = .ok (.ifCond .eq 9, 3) := by decide +kernel
theorem dX8_refuseTold_55 : decode cX8_refuseTold 55 = .ok (.aload_n 0, 1) := by decide +kernel
theorem dX8_refuseTold_56 : decode cX8_refuseTold 56 = .ok (.iconst 5, 1) := by decide +kernel
theorem dX8_refuseTold_57 : decode cX8_refuseTold 57 = .ok (.invokevirtual 101, 3) := by decide +kernel
theorem dX8_refuseTold_60 : decode cX8_refuseTold 60 = .ok (.ireturn, 1) := by decide +kernel
theorem dX8_refuseTold_61 : decode cX8_refuseTold 61 = .ok (.aload_n 0, 1) := by decide +kernel
theorem dX8_refuseTold_62 : decode cX8_refuseTold 62 = .ok (.getfield 11, 3) := by decide +kernel
theorem dX8_refuseTold_65 : decode cX8_refuseTold 65 = .ok (.iload_n 2, 1) := by decide +kernel
theorem dX8_refuseTold_66 : decode cX8_refuseTold 66 = .ok (.aaload, 1) := by decide +kernel
theorem dX8_refuseTold_67 : decode cX8_refuseTold 67 = .ok (.iconst 2, 1) := by decide +kernel
theorem dX8_refuseTold_68 : decode cX8_refuseTold 68 = .ok (.invokevirtual 324, 3) := by decide +kernel
theorem dX8_refuseTold_71 : decode cX8_refuseTold 71 = .ok (.ifCond .eq 7, 3) := by decide +kernel
theorem dX8_refuseTold_74 : decode cX8_refuseTold 74 = .ok (.iconst 0, 1) := by decide +kernel
theorem dX8_refuseTold_75 : decode cX8_refuseTold 75 = .ok (.goto 8, 3) := by decide +kernel
theorem dX8_refuseTold_78 : decode cX8_refuseTold 78 = .ok (.aload_n 0, 1) := by decide +kernel
theorem dX8_refuseTold_79 : decode cX8_refuseTold 79 = .ok (.iconst 3, 1) := by decide +kernel
theorem dX8_refuseTold_80 : decode cX8_refuseTold 80 = .ok (.invokevirtual 101, 3) := by decide +kernel
theorem dX8_refuseTold_83 : decode cX8_refuseTold 83 = .ok (.ireturn, 1) := by decide +kernel
theorem dX8_refuseSlips_0 : decode cX8_refuseSlips 0 = .ok (.iload_n 2, 1) := by decide +kernel
theorem dX8_refuseSlips_1 : decode cX8_refuseSlips 1 = .ok (.invokestatic 171, 3) := by decide +kernel
theorem dX8_refuseSlips_4 : decode cX8_refuseSlips 4 = .ok (.ifCond .eq 25, 3) := by decide +kernel
theorem dX8_refuseSlips_7 : decode cX8_refuseSlips 7 = .ok (.iload_n 3, 1) := by decide +kernel
theorem dX8_refuseSlips_8 : decode cX8_refuseSlips 8 = .ok (.ifCond .lt 21, 3) := by decide +kernel
theorem dX8_refuseSlips_11 : decode cX8_refuseSlips 11 = .ok (.iload_n 3, 1) := by decide +kernel
theorem dX8_refuseSlips_12 : decode cX8_refuseSlips 12 = .ok (.bipush 8, 2) := by decide +kernel
theorem dX8_refuseSlips_14 : decode cX8_refuseSlips 14 = .ok (.if_icmp .gt 15, 3) := by decide +kernel
theorem dX8_refuseSlips_17 : decode cX8_refuseSlips 17 = .ok (.iload 4, 2) := by decide +kernel
theorem dX8_refuseSlips_19 : decode cX8_refuseSlips 19 = .ok (.ifCond .lt 10, 3) := by decide +kernel
theorem dX8_refuseSlips_22 : decode cX8_refuseSlips 22 = .ok (.iload 4, 2) := by decide +kernel
theorem dX8_refuseSlips_24 : decode cX8_refuseSlips 24 = .ok (.bipush 12, 2) := by decide +kernel
theorem dX8_refuseSlips_26 : decode cX8_refuseSlips 26 = .ok (.if_icmp .le 5, 3) := by decide +kernel
theorem dX8_refuseSlips_29 : decode cX8_refuseSlips 29 = .ok (.iconst (-1), 1) := by decide +kernel
theorem dX8_refuseSlips_30 : decode cX8_refuseSlips 30 = .ok (.ireturn, 1) := by decide +kernel
theorem dX8_refuseSlips_31 : decode cX8_refuseSlips 31 = .ok (.aload_n 0, 1) := by decide +kernel
theorem dX8_refuseSlips_32 : decode cX8_refuseSlips 32 = .ok (.iload_n 1, 1) := by decide +kernel
theorem dX8_refuseSlips_33 : decode cX8_refuseSlips 33 = .ok (.invokevirtual 174, 3) := by decide +kernel
theorem dX8_refuseSlips_36 : decode cX8_refuseSlips 36 = .ok (.ireturn, 1) := by decide +kernel
theorem dX8_isRow_0 : decode cX8_isRow 0 = .ok (.iload_n 0, 1) := by decide +kernel
theorem dX8_isRow_1 : decode cX8_isRow 1 = .ok (.ifCond .lt 13, 3) := by decide +kernel
theorem dX8_isRow_4 : decode cX8_isRow 4 = .ok (.iload_n 0, 1) := by decide +kernel
theorem dX8_isRow_5 : decode cX8_isRow 5 = .ok (.bipush 6, 2) := by decide +kernel
theorem dX8_isRow_7 : decode cX8_isRow 7 = .ok (.if_icmp .ge 7, 3) := by decide +kernel
theorem dX8_isRow_10 : decode cX8_isRow 10 = .ok (.iconst 1, 1) := by decide +kernel
theorem dX8_isRow_11 : decode cX8_isRow 11 = .ok (.goto 4, 3) := by decide +kernel
theorem dX8_isRow_14 : decode cX8_isRow 14 = .ok (.iconst 0, 1) := by decide +kernel
theorem dX8_isRow_15 : decode cX8_isRow 15 = .ok (.ireturn, 1) := by decide +kernel
theorem dX8_isText_0 : decode cX8_isText 0 = .ok (.iload_n 0, 1) := by decide +kernel
theorem dX8_isText_1 : decode cX8_isText 1 = .ok (.ifCond .lt 12, 3) := by decide +kernel
theorem dX8_isText_4 : decode cX8_isText 4 = .ok (.iload_n 0, 1) := by decide +kernel
theorem dX8_isText_5 : decode cX8_isText 5 = .ok (.iconst 4, 1) := by decide +kernel
theorem dX8_isText_6 : decode cX8_isText 6 = .ok (.if_icmp .ge 7, 3) := by decide +kernel
theorem dX8_isText_9 : decode cX8_isText 9 = .ok (.iconst 1, 1) := by decide +kernel
theorem dX8_isText_10 : decode cX8_isText 10 = .ok (.goto 4, 3) := by decide +kernel
theorem dX8_isText_13 : decode cX8_isText 13 = .ok (.iconst 0, 1) := by decide +kernel
theorem dX8_isText_14 : decode cX8_isText 14 = .ok (.ireturn, 1) := by decide +kernel
theorem dX8_isKept_0 : decode cX8_isKept 0 = .ok (.iload_n 0, 1) := by decide +kernel
theorem dX8_isKept_1 : decode cX8_isKept 1 = .ok (.ifCond .lt 12, 3) := by decide +kernel
theorem dX8_isKept_4 : decode cX8_isKept 4 = .ok (.iload_n 0, 1) := by decide +kernel
theorem dX8_isKept_5 : decode cX8_isKept 5 = .ok (.iconst 3, 1) := by decide +kernel
theorem dX8_isKept_6 : decode cX8_isKept 6 = .ok (.if_icmp .ge 7, 3) := by decide +kernel
theorem dX8_isKept_9 : decode cX8_isKept 9 = .ok (.iconst 1, 1) := by decide +kernel
theorem dX8_isKept_10 : decode cX8_isKept 10 = .ok (.goto 4, 3) := by decide +kernel
theorem dX8_isKept_13 : decode cX8_isKept 13 = .ok (.iconst 0, 1) := by decide +kernel
theorem dX8_isKept_14 : decode cX8_isKept 14 = .ok (.ireturn, 1) := by decide +kernel
theorem dX8_isPull_0 : decode cX8_isPull 0 = .ok (.iload_n 0, 1) := by decide +kernel
theorem dX8_isPull_1 : decode cX8_isPull 1 = .ok (.ifCond .lt 13, 3) := by decide +kernel
theorem dX8_isPull_4 : decode cX8_isPull 4 = .ok (.iload_n 0, 1) := by decide +kernel
theorem dX8_isPull_5 : decode cX8_isPull 5 = .ok (.bipush 7, 2) := by decide +kernel
theorem dX8_isPull_7 : decode cX8_isPull 7 = .ok (.if_icmp .ge 7, 3) := by decide +kernel
theorem dX8_isPull_10 : decode cX8_isPull 10 = .ok (.iconst 1, 1) := by decide +kernel
theorem dX8_isPull_11 : decode cX8_isPull 11 = .ok (.goto 4, 3) := by decide +kernel
theorem dX8_isPull_14 : decode cX8_isPull 14 = .ok (.iconst 0, 1) := by decide +kernel
theorem dX8_isPull_15 : decode cX8_isPull 15 = .ok (.ireturn, 1) := by decide +kernel
theorem dX8_anew_0 : decode cX8_anew 0 = .ok (.iload_n 2, 1) := by decide +kernel
theorem dX8_anew_1 : decode cX8_anew 1 = .ok (.aload_n 1, 1) := by decide +kernel
theorem dX8_anew_2 : decode cX8_anew 2 = .ok (.getfield 90, 3) := by decide +kernel
theorem dX8_anew_5 : decode cX8_anew 5 = .ok (.arraylength, 1) := by decide +kernel
theorem dX8_anew_6 : decode cX8_anew 6 = .ok (.if_icmp .le 5, 3) := by decide +kernel
theorem dX8_anew_9 : decode cX8_anew 9 = .ok (.iconst (-1), 1) := by decide +kernel
theorem dX8_anew_10 : decode cX8_anew 10 = .ok (.ireturn, 1) := by decide +kernel
theorem dX8_anew_11 : decode cX8_anew 11 = .ok (.iload_n 2, 1) := by decide +kernel
theorem dX8_anew_12 : decode cX8_anew 12 = .ok (.ifCond .ge 9, 3) := by decide +kernel
theorem dX8_anew_15 : decode cX8_anew 15 = .ok (.aload_n 0, 1) := by decide +kernel
theorem dX8_anew_16 : decode cX8_anew 16 = .ok (.iconst 5, 1) := by decide +kernel
theorem dX8_anew_17 : decode cX8_anew 17 = .ok (.invokevirtual 101, 3) := by decide +kernel
theorem dX8_anew_20 : decode cX8_anew 20 = .ok (.ireturn, 1) := by decide +kernel
theorem dX8_anew_21 : decode cX8_anew 21 = .ok (.aload_n 1, 1) := by decide +kernel
theorem dX8_anew_22 : decode cX8_anew 22 = .ok (.iload_n 2, 1) := by decide +kernel
theorem dX8_anew_23 : decode cX8_anew 23 = .ok (.iload_n 3, 1) := by decide +kernel
theorem dX8_anew_24 : decode cX8_anew 24 = .ok (.invokevirtual 374, 3) := by decide +kernel
theorem dX8_anew_27 : decode cX8_anew 27 = .ok (.iload_n 2, 1) := by decide +kernel
theorem dX8_anew_28 : decode cX8_anew 28 = .ok (.ireturn, 1) := by decide +kernel
theorem dX8_tellParts_0 : decode cX8_tellParts 0 = .ok (.lload_n 1, 1) := by decide +kernel
theorem dX8_tellParts_1 : decode cX8_tellParts 1 = .ok (.lload_n 3, 1) := by decide +kernel
theorem dX8_tellParts_2 : decode cX8_tellParts 2 = .ok (.invokestatic 376, 3) := by decide +kernel
theorem dX8_tellParts_5 : decode cX8_tellParts 5 = .ok (.lstore 5, 2) := by decide +kernel
theorem dX8_tellParts_7 : decode cX8_tellParts 7 = .ok (.lload 5, 2) := by decide +kernel
theorem dX8_tellParts_9 : decode cX8_tellParts 9 = .ok (.lconst 0, 1) := by decide +kernel
theorem dX8_tellParts_10 : decode cX8_tellParts 10 = .ok (.lcmp, 1) := by decide +kernel
theorem dX8_tellParts_11 : decode cX8_tellParts 11 = .ok (.ifCond .eq 19, 3) := by decide +kernel
theorem dX8_tellParts_14 : decode cX8_tellParts 14 = .ok (.aload_n 0, 1) := by decide +kernel
theorem dX8_tellParts_15 : decode cX8_tellParts 15 = .ok (.lload_n 1, 1) := by decide +kernel
theorem dX8_tellParts_16 : decode cX8_tellParts 16 = .ok (.lload 5, 2) := by decide +kernel
theorem dX8_tellParts_18 : decode cX8_tellParts 18 = .ok (.ldiv, 1) := by decide +kernel
theorem dX8_tellParts_19 : decode cX8_tellParts 19 = .ok (.putfield 344, 3) := by decide +kernel
theorem dX8_tellParts_22 : decode cX8_tellParts 22 = .ok (.aload_n 0, 1) := by decide +kernel
theorem dX8_tellParts_23 : decode cX8_tellParts 23 = .ok (.lload_n 3, 1) := by decide +kernel
theorem dX8_tellParts_24 : decode cX8_tellParts 24 = .ok (.lload 5, 2) := by decide +kernel
theorem dX8_tellParts_26 : decode cX8_tellParts 26 = .ok (.ldiv, 1) := by decide +kernel
theorem dX8_tellParts_27 : decode cX8_tellParts 27 = .ok (.putfield 71, 3) := by decide +kernel
theorem dX8_tellParts_30 : decode cX8_tellParts 30 = .ok (.iconst 1, 1) := by decide +kernel
theorem dX8_tellParts_31 : decode cX8_tellParts 31 = .ok (.ireturn, 1) := by decide +kernel
theorem dX8_commonDivisor_0 : decode cX8_commonDivisor 0 = .ok (.lload_n 0, 1) := by decide +kernel
theorem dX8_commonDivisor_1 : decode cX8_commonDivisor 1 = .ok (.lstore 4, 2) := by decide +kernel
theorem dX8_commonDivisor_3 : decode cX8_commonDivisor 3 = .ok (.lload_n 2, 1) := by decide +kernel
theorem dX8_commonDivisor_4 : decode cX8_commonDivisor 4 = .ok (.lstore 6, 2) := by decide +kernel
theorem dX8_commonDivisor_6 : decode cX8_commonDivisor 6 = .ok (.iconst 0, 1) := by decide +kernel
theorem dX8_commonDivisor_7 : decode cX8_commonDivisor 7 = .ok (.istore 8, 2) := by decide +kernel
theorem dX8_commonDivisor_9 : decode cX8_commonDivisor 9 = .ok (.iload 8, 2) := by decide +kernel
theorem dX8_commonDivisor_11 : decode cX8_commonDivisor 11 = .ok (.sipush 200, 3) := by decide +kernel
theorem dX8_commonDivisor_14 : decode cX8_commonDivisor 14 = .ok (.if_icmp .ge 31, 3) := by decide +kernel
theorem dX8_commonDivisor_17 : decode cX8_commonDivisor 17 = .ok (.lload 6, 2) := by decide +kernel
theorem dX8_commonDivisor_19 : decode cX8_commonDivisor 19 = .ok (.lconst 0, 1) := by decide +kernel
theorem dX8_commonDivisor_20 : decode cX8_commonDivisor 20 = .ok (.lcmp, 1) := by decide +kernel
theorem dX8_commonDivisor_21 : decode cX8_commonDivisor 21 = .ok (.ifCond .eq 24, 3) := by decide +kernel
theorem dX8_commonDivisor_24 : decode cX8_commonDivisor 24 = .ok (.lload 4, 2) := by decide +kernel
theorem dX8_commonDivisor_26 : decode cX8_commonDivisor 26 = .ok (.lload 6, 2) := by decide +kernel
theorem dX8_commonDivisor_28 : decode cX8_commonDivisor 28 = .ok (.lrem, 1) := by decide +kernel
theorem dX8_commonDivisor_29 : decode cX8_commonDivisor 29 = .ok (.lstore 9, 2) := by decide +kernel
theorem dX8_commonDivisor_31 : decode cX8_commonDivisor 31 = .ok (.lload 6, 2) := by decide +kernel
theorem dX8_commonDivisor_33 : decode cX8_commonDivisor 33 = .ok (.lstore 4, 2) := by decide +kernel
theorem dX8_commonDivisor_35 : decode cX8_commonDivisor 35 = .ok (.lload 9, 2) := by decide +kernel
theorem dX8_commonDivisor_37 : decode cX8_commonDivisor 37 = .ok (.lstore 6, 2) := by decide +kernel
theorem dX8_commonDivisor_39 : decode cX8_commonDivisor 39 = .ok (.iinc 8 1, 3) := by decide +kernel
theorem dX8_commonDivisor_42 : decode cX8_commonDivisor 42 = .ok (.goto (-33), 3) := by decide +kernel
theorem dX8_commonDivisor_45 : decode cX8_commonDivisor 45 = .ok (.lload 4, 2) := by decide +kernel
theorem dX8_commonDivisor_47 : decode cX8_commonDivisor 47 = .ok (.lreturn, 1) := by decide +kernel
theorem dX8_greatestWhole_0 : decode cX8_greatestWhole 0 = .ok (.bipush 6, 2) := by decide +kernel
theorem dX8_greatestWhole_2 : decode cX8_greatestWhole 2 = .ok (.istore_n 2, 1) := by decide +kernel
theorem dX8_greatestWhole_3 : decode cX8_greatestWhole 3 = .ok (.iload_n 2, 1) := by decide +kernel
theorem dX8_greatestWhole_4 : decode cX8_greatestWhole 4 = .ok (.ifCond .le 27, 3) := by decide +kernel
theorem dX8_greatestWhole_7 : decode cX8_greatestWhole 7 = .ok (.aload_n 1, 1) := by decide +kernel
theorem dX8_greatestWhole_8 : decode cX8_greatestWhole 8 = .ok (.getfield 146, 3) := by decide +kernel
theorem dX8_greatestWhole_11 : decode cX8_greatestWhole 11 = .ok (.aload_n 1, 1) := by decide +kernel
theorem dX8_greatestWhole_12 : decode cX8_greatestWhole 12 = .ok (.getfield 156, 3) := by decide +kernel
theorem dX8_greatestWhole_15 : decode cX8_greatestWhole 15 = .ok (.iload_n 2, 1) := by decide +kernel
theorem dX8_greatestWhole_16 : decode cX8_greatestWhole 16 = .ok (.invokestatic 215, 3) := by decide +kernel
theorem dX8_greatestWhole_19 : decode cX8_greatestWhole 19 = .ok (.iconst (-1), 1) := by decide +kernel
theorem dX8_greatestWhole_20 : decode cX8_greatestWhole 20 = .ok (.if_icmp .eq 5, 3) := by decide +kernel
theorem dX8_greatestWhole_23 : decode cX8_greatestWhole 23 = .ok (.iload_n 2, 1) := by decide +kernel
theorem dX8_greatestWhole_24 : decode cX8_greatestWhole 24 = .ok (.ireturn, 1) := by decide +kernel
theorem dX8_greatestWhole_25 : decode cX8_greatestWhole 25 = .ok (.iinc 2 (-1), 3) := by decide +kernel
theorem dX8_greatestWhole_28 : decode cX8_greatestWhole 28 = .ok (.goto (-25), 3) := by decide +kernel
theorem dX8_greatestWhole_31 : decode cX8_greatestWhole 31 = .ok (.iconst 0, 1) := by decide +kernel
theorem dX8_greatestWhole_32 : decode cX8_greatestWhole 32 = .ok (.ireturn, 1) := by decide +kernel
theorem dX8_othersAsHeavy_0 : decode cX8_othersAsHeavy 0 = .ok (.iconst 0, 1) := by decide +kernel
theorem dX8_othersAsHeavy_1 : decode cX8_othersAsHeavy 1 = .ok (.istore_n 2, 1) := by decide +kernel
theorem dX8_othersAsHeavy_2 : decode cX8_othersAsHeavy 2 = .ok (.iconst 0, 1) := by decide +kernel
theorem dX8_othersAsHeavy_3 : decode cX8_othersAsHeavy 3 = .ok (.istore_n 3, 1) := by decide +kernel
theorem dX8_othersAsHeavy_4 : decode cX8_othersAsHeavy 4 = .ok (.iload_n 3, 1) := by decide +kernel
theorem dX8_othersAsHeavy_5 : decode cX8_othersAsHeavy 5 = .ok (.aload_n 0, 1) := by decide +kernel
theorem dX8_othersAsHeavy_6 : decode cX8_othersAsHeavy 6 = .ok (.getfield 25, 3) := by decide +kernel
theorem dX8_othersAsHeavy_9 : decode cX8_othersAsHeavy 9 = .ok (.getfield 135, 3) := by decide +kernel
theorem dX8_othersAsHeavy_12 : decode cX8_othersAsHeavy 12 = .ok (.if_icmp .ge 44, 3) := by decide +kernel
theorem dX8_othersAsHeavy_15 : decode cX8_othersAsHeavy 15 = .ok (.iload_n 3, 1) := by decide +kernel
theorem dX8_othersAsHeavy_16 : decode cX8_othersAsHeavy 16 = .ok (.iload_n 1, 1) := by decide +kernel
theorem dX8_othersAsHeavy_17 : decode cX8_othersAsHeavy 17 = .ok (.if_icmp .eq 33, 3) := by decide +kernel
theorem dX8_othersAsHeavy_20 : decode cX8_othersAsHeavy 20 = .ok (.aload_n 0, 1) := by decide +kernel
theorem dX8_othersAsHeavy_21 : decode cX8_othersAsHeavy 21 = .ok (.getfield 25, 3) := by decide +kernel
theorem dX8_othersAsHeavy_24 : decode cX8_othersAsHeavy 24 = .ok (.getfield 137, 3) := by decide +kernel
theorem dX8_othersAsHeavy_27 : decode cX8_othersAsHeavy 27 = .ok (.iload_n 3, 1) := by decide +kernel
theorem dX8_othersAsHeavy_28 : decode cX8_othersAsHeavy 28 = .ok (.aaload, 1) := by decide +kernel
theorem dX8_othersAsHeavy_29 : decode cX8_othersAsHeavy 29 = .ok (.getfield 317, 3) := by decide +kernel
theorem dX8_othersAsHeavy_32 : decode cX8_othersAsHeavy 32 = .ok (.aload_n 0, 1) := by decide +kernel
theorem dX8_othersAsHeavy_33 : decode cX8_othersAsHeavy 33 = .ok (.getfield 25, 3) := by decide +kernel
theorem dX8_othersAsHeavy_36 : decode cX8_othersAsHeavy 36 = .ok (.getfield 137, 3) := by decide +kernel
theorem dX8_othersAsHeavy_39 : decode cX8_othersAsHeavy 39 = .ok (.iload_n 1, 1) := by decide +kernel
theorem dX8_othersAsHeavy_40 : decode cX8_othersAsHeavy 40 = .ok (.aaload, 1) := by decide +kernel
theorem dX8_othersAsHeavy_41 : decode cX8_othersAsHeavy 41 = .ok (.getfield 317, 3) := by decide +kernel
theorem dX8_othersAsHeavy_44 : decode cX8_othersAsHeavy 44 = .ok (.if_icmp .lt 6, 3) := by decide +kernel
theorem dX8_othersAsHeavy_47 : decode cX8_othersAsHeavy 47 = .ok (.iinc 2 1, 3) := by decide +kernel
theorem dX8_othersAsHeavy_50 : decode cX8_othersAsHeavy 50 = .ok (.iinc 3 1, 3) := by decide +kernel
theorem dX8_othersAsHeavy_53 : decode cX8_othersAsHeavy 53 = .ok (.goto (-49), 3) := by decide +kernel
theorem dX8_othersAsHeavy_56 : decode cX8_othersAsHeavy 56 = .ok (.iload_n 2, 1) := by decide +kernel
theorem dX8_othersAsHeavy_57 : decode cX8_othersAsHeavy 57 = .ok (.ireturn, 1) := by decide +kernel
theorem dX8_othersSooner_0 : decode cX8_othersSooner 0 = .ok (.aload_n 0, 1) := by decide +kernel
theorem dX8_othersSooner_1 : decode cX8_othersSooner 1 = .ok (.getfield 25, 3) := by decide +kernel
theorem dX8_othersSooner_4 : decode cX8_othersSooner 4 = .ok (.iload_n 1, 1) := by decide +kernel
theorem dX8_othersSooner_5 : decode cX8_othersSooner 5 = .ok (.iconst 1, 1) := by decide +kernel
theorem dX8_othersSooner_6 : decode cX8_othersSooner 6 = .ok (.invokevirtual 159, 3) := by decide +kernel
theorem dX8_othersSooner_9 : decode cX8_othersSooner 9 = .ok (.istore_n 2, 1) := by decide +kernel
theorem dX8_othersSooner_10 : decode cX8_othersSooner 10 = .ok (.iload_n 2, 1) := by decide +kernel
theorem dX8_othersSooner_11 : decode cX8_othersSooner 11 = .ok (.bipush (-9), 2) := by decide +kernel
theorem dX8_othersSooner_13 : decode cX8_othersSooner 13 = .ok (.if_icmp .ne 6, 3) := by decide +kernel
theorem dX8_othersSooner_16 : decode cX8_othersSooner 16 = .ok (.bipush (-9), 2) := by decide +kernel
theorem dX8_othersSooner_18 : decode cX8_othersSooner 18 = .ok (.ireturn, 1) := by decide +kernel
theorem dX8_othersSooner_19 : decode cX8_othersSooner 19 = .ok (.iconst 0, 1) := by decide +kernel
theorem dX8_othersSooner_20 : decode cX8_othersSooner 20 = .ok (.istore_n 3, 1) := by decide +kernel
theorem dX8_othersSooner_21 : decode cX8_othersSooner 21 = .ok (.iconst 0, 1) := by decide +kernel
theorem dX8_othersSooner_22 : decode cX8_othersSooner 22 = .ok (.istore 4, 2) := by decide +kernel
theorem dX8_othersSooner_24 : decode cX8_othersSooner 24 = .ok (.iload 4, 2) := by decide +kernel
theorem dX8_othersSooner_26 : decode cX8_othersSooner 26 = .ok (.aload_n 0, 1) := by decide +kernel
theorem dX8_othersSooner_27 : decode cX8_othersSooner 27 = .ok (.getfield 25, 3) := by decide +kernel
theorem dX8_othersSooner_30 : decode cX8_othersSooner 30 = .ok (.getfield 135, 3) := by decide +kernel
theorem dX8_othersSooner_33 : decode cX8_othersSooner 33 = .ok (.if_icmp .ge 37, 3) := by decide +kernel
theorem dX8_othersSooner_36 : decode cX8_othersSooner 36 = .ok (.aload_n 0, 1) := by decide +kernel
theorem dX8_othersSooner_37 : decode cX8_othersSooner 37 = .ok (.getfield 25, 3) := by decide +kernel
theorem dX8_othersSooner_40 : decode cX8_othersSooner 40 = .ok (.iload 4, 2) := by decide +kernel
theorem dX8_othersSooner_42 : decode cX8_othersSooner 42 = .ok (.iconst 1, 1) := by decide +kernel
theorem dX8_othersSooner_43 : decode cX8_othersSooner 43 = .ok (.invokevirtual 159, 3) := by decide +kernel
theorem dX8_othersSooner_46 : decode cX8_othersSooner 46 = .ok (.istore 5, 2) := by decide +kernel
theorem dX8_othersSooner_48 : decode cX8_othersSooner 48 = .ok (.iload 5, 2) := by decide +kernel
theorem dX8_othersSooner_50 : decode cX8_othersSooner 50 = .ok (.bipush (-9), 2) := by decide +kernel
theorem dX8_othersSooner_52 : decode cX8_othersSooner 52 = .ok (.if_icmp .eq 12, 3) := by decide +kernel
theorem dX8_othersSooner_55 : decode cX8_othersSooner 55 = .ok (.iload 5, 2) := by decide +kernel
theorem dX8_othersSooner_57 : decode cX8_othersSooner 57 = .ok (.iload_n 2, 1) := by decide +kernel
theorem dX8_othersSooner_58 : decode cX8_othersSooner 58 = .ok (.if_icmp .ge 6, 3) := by decide +kernel
theorem dX8_othersSooner_61 : decode cX8_othersSooner 61 = .ok (.iinc 3 1, 3) := by decide +kernel
theorem dX8_othersSooner_64 : decode cX8_othersSooner 64 = .ok (.iinc 4 1, 3) := by decide +kernel
theorem dX8_othersSooner_67 : decode cX8_othersSooner 67 = .ok (.goto (-43), 3) := by decide +kernel
theorem dX8_othersSooner_70 : decode cX8_othersSooner 70 = .ok (.iload_n 3, 1) := by decide +kernel
theorem dX8_othersSooner_71 : decode cX8_othersSooner 71 = .ok (.ireturn, 1) := by decide +kernel
theorem dX8_listen_0 : decode cX8_listen 0 = .ok (.aload_n 0, 1) := by decide +kernel
theorem dX8_listen_1 : decode cX8_listen 1 = .ok (.getfield 35, 3) := by decide +kernel
theorem dX8_listen_4 : decode cX8_listen 4 = .ok (.invokevirtual 275, 3) := by decide +kernel
theorem dX8_listen_7 : decode cX8_listen 7 = .ok (.iconst 0, 1) := by decide +kernel
theorem dX8_listen_8 : decode cX8_listen 8 = .ok (.istore_n 2, 1) := by decide +kernel
theorem dX8_listen_9 : decode cX8_listen 9 = .ok (.iload_n 2, 1) := by decide +kernel
theorem dX8_listen_10 : decode cX8_listen 10 = .ok (.aload_n 0, 1) := by decide +kernel
theorem dX8_listen_11 : decode cX8_listen 11 = .ok (.getfield 25, 3) := by decide +kernel
theorem dX8_listen_14 : decode cX8_listen 14 = .ok (.getfield 135, 3) := by decide +kernel
theorem dX8_listen_17 : decode cX8_listen 17 = .ok (.if_icmp .ge 71, 3) := by decide +kernel
theorem dX8_listen_20 : decode cX8_listen 20 = .ok (.iload_n 2, 1) := by decide +kernel
theorem dX8_listen_21 : decode cX8_listen 21 = .ok (.aload_n 1, 1) := by decide +kernel
theorem dX8_listen_22 : decode cX8_listen 22 = .ok (.getfield 105, 3) := by decide +kernel
theorem dX8_listen_25 : decode cX8_listen 25 = .ok (.if_icmp .ge 63, 3) := by decide +kernel
theorem dX8_listen_28 : decode cX8_listen 28 = .ok (.aload_n 0, 1) := by decide +kernel
theorem dX8_listen_29 : decode cX8_listen 29 = .ok (.getfield 25, 3) := by decide +kernel
theorem dX8_listen_32 : decode cX8_listen 32 = .ok (.getfield 137, 3) := by decide +kernel
theorem dX8_listen_35 : decode cX8_listen 35 = .ok (.iload_n 2, 1) := by decide +kernel
theorem dX8_listen_36 : decode cX8_listen 36 = .ok (.aaload, 1) := by decide +kernel
theorem dX8_listen_37 : decode cX8_listen 37 = .ok (.getfield 200, 3) := by decide +kernel
theorem dX8_listen_40 : decode cX8_listen 40 = .ok (.ifCond .eq 8, 3) := by decide +kernel
theorem dX8_listen_43 : decode cX8_listen 43 = .ok (.bipush (-9), 2) := by decide +kernel
theorem dX8_listen_45 : decode cX8_listen 45 = .ok (.goto 17, 3) := by decide +kernel
theorem dX8_listen_48 : decode cX8_listen 48 = .ok (.aload_n 0, 1) := by decide +kernel
theorem dX8_listen_49 : decode cX8_listen 49 = .ok (.getfield 25, 3) := by decide +kernel
theorem dX8_listen_52 : decode cX8_listen 52 = .ok (.iload_n 2, 1) := by decide +kernel
theorem dX8_listen_53 : decode cX8_listen 53 = .ok (.aload_n 1, 1) := by decide +kernel
theorem dX8_listen_54 : decode cX8_listen 54 = .ok (.getfield 90, 3) := by decide +kernel
theorem dX8_listen_57 : decode cX8_listen 57 = .ok (.iload_n 2, 1) := by decide +kernel
theorem dX8_listen_58 : decode cX8_listen 58 = .ok (.iaload, 1) := by decide +kernel
theorem dX8_listen_59 : decode cX8_listen 59 = .ok (.invokevirtual 159, 3) := by decide +kernel
theorem dX8_listen_62 : decode cX8_listen 62 = .ok (.istore_n 3, 1) := by decide +kernel
theorem dX8_listen_63 : decode cX8_listen 63 = .ok (.iload_n 3, 1) := by decide +kernel
theorem dX8_listen_64 : decode cX8_listen 64 = .ok (.bipush (-9), 2) := by decide +kernel
theorem dX8_listen_66 : decode cX8_listen 66 = .ok (.if_icmp .eq 16, 3) := by decide +kernel
theorem dX8_listen_69 : decode cX8_listen 69 = .ok (.aload_n 0, 1) := by decide +kernel
theorem dX8_listen_70 : decode cX8_listen 70 = .ok (.getfield 35, 3) := by decide +kernel
theorem dX8_listen_73 : decode cX8_listen 73 = .ok (.iload_n 2, 1) := by decide +kernel
theorem dX8_listen_74 : decode cX8_listen 74 = .ok (.iconst 2, 1) := by decide +kernel
theorem dX8_listen_75 : decode cX8_listen 75 = .ok (.iload_n 2, 1) := by decide +kernel
theorem dX8_listen_76 : decode cX8_listen 76 = .ok (.imul, 1) := by decide +kernel
theorem dX8_listen_77 : decode cX8_listen 77 = .ok (.iload_n 3, 1) := by decide +kernel
theorem dX8_listen_78 : decode cX8_listen 78 = .ok (.iadd, 1) := by decide +kernel
theorem dX8_listen_79 : decode cX8_listen 79 = .ok (.invokevirtual 380, 3) := by decide +kernel
theorem dX8_listen_82 : decode cX8_listen 82 = .ok (.iinc 2 1, 3) := by decide +kernel
theorem dX8_listen_85 : decode cX8_listen 85 = .ok (.goto (-76), 3) := by decide +kernel
theorem dX8_listen_88 : decode cX8_listen 88 = .ok (.return_, 1) := by decide +kernel
theorem dX8_ringOrder_0 : decode cX8_ringOrder 0 = .ok (.aload_n 0, 1) := by decide +kernel
theorem dX8_ringOrder_1 : decode cX8_ringOrder 1 = .ok (.getfield 35, 3) := by decide +kernel
theorem dX8_ringOrder_4 : decode cX8_ringOrder 4 = .ok (.invokevirtual 275, 3) := by decide +kernel
theorem dX8_ringOrder_7 : decode cX8_ringOrder 7 = .ok (.bipush (-9), 2) := by decide +kernel
theorem dX8_ringOrder_9 : decode cX8_ringOrder 9 = .ok (.istore_n 3, 1) := by decide +kernel
theorem dX8_ringOrder_10 : decode cX8_ringOrder 10 = .ok (.iconst 0, 1) := by decide +kernel
theorem dX8_ringOrder_11 : decode cX8_ringOrder 11 = .ok (.istore 4, 2) := by decide +kernel
theorem dX8_ringOrder_13 : decode cX8_ringOrder 13 = .ok (.iload 4, 2) := by decide +kernel
theorem dX8_ringOrder_15 : decode cX8_ringOrder 15 = .ok (.aload_n 1, 1) := by decide +kernel
theorem dX8_ringOrder_16 : decode cX8_ringOrder 16 = .ok (.getfield 105, 3) := by decide +kernel
theorem dX8_ringOrder_19 : decode cX8_ringOrder 19 = .ok (.if_icmp .ge 88, 3) := by decide +kernel
theorem dX8_ringOrder_22 : decode cX8_ringOrder 22 = .ok (.aload_n 1, 1) := by decide +kernel
theorem dX8_ringOrder_23 : decode cX8_ringOrder 23 = .ok (.getfield 90, 3) := by decide +kernel
theorem dX8_ringOrder_26 : decode cX8_ringOrder 26 = .ok (.iload 4, 2) := by decide +kernel
theorem dX8_ringOrder_28 : decode cX8_ringOrder 28 = .ok (.iaload, 1) := by decide +kernel
theorem dX8_ringOrder_29 : decode cX8_ringOrder 29 = .ok (.istore 5, 2) := by decide +kernel
theorem dX8_ringOrder_31 : decode cX8_ringOrder 31 = .ok (.aload_n 0, 1) := by decide +kernel
theorem dX8_ringOrder_32 : decode cX8_ringOrder 32 = .ok (.getfield 25, 3) := by decide +kernel
theorem dX8_ringOrder_35 : decode cX8_ringOrder 35 = .ok (.iload 5, 2) := by decide +kernel
theorem dX8_ringOrder_37 : decode cX8_ringOrder 37 = .ok (.iload_n 3, 1) := by decide +kernel
theorem dX8_ringOrder_38 : decode cX8_ringOrder 38 = .ok (.invokevirtual 383, 3) := by decide +kernel
theorem dX8_ringOrder_41 : decode cX8_ringOrder 41 = .ok (.istore 6, 2) := by decide +kernel
theorem dX8_ringOrder_43 : decode cX8_ringOrder 43 = .ok (.iload 6, 2) := by decide +kernel
theorem dX8_ringOrder_45 : decode cX8_ringOrder 45 = .ok (.bipush (-9), 2) := by decide +kernel
theorem dX8_ringOrder_47 : decode cX8_ringOrder 47 = .ok (.if_icmp .ne 6, 3) := by decide +kernel
theorem dX8_ringOrder_50 : decode cX8_ringOrder 50 = .ok (.bipush (-9), 2) := by decide +kernel
theorem dX8_ringOrder_52 : decode cX8_ringOrder 52 = .ok (.ireturn, 1) := by decide +kernel
theorem dX8_ringOrder_53 : decode cX8_ringOrder 53 = .ok (.aload_n 0, 1) := by decide +kernel
theorem dX8_ringOrder_54 : decode cX8_ringOrder 54 = .ok (.getfield 25, 3) := by decide +kernel
theorem dX8_ringOrder_57 : decode cX8_ringOrder 57 = .ok (.iload 5, 2) := by decide +kernel
theorem dX8_ringOrder_59 : decode cX8_ringOrder 59 = .ok (.iload 6, 2) := by decide +kernel
theorem dX8_ringOrder_61 : decode cX8_ringOrder 61 = .ok (.invokevirtual 386, 3) := by decide +kernel
theorem dX8_ringOrder_64 : decode cX8_ringOrder 64 = .ok (.istore_n 3, 1) := by decide +kernel
theorem dX8_ringOrder_65 : decode cX8_ringOrder 65 = .ok (.aload_n 0, 1) := by decide +kernel
theorem dX8_ringOrder_66 : decode cX8_ringOrder 66 = .ok (.getfield 35, 3) := by decide +kernel
theorem dX8_ringOrder_69 : decode cX8_ringOrder 69 = .ok (.iload 5, 2) := by decide +kernel
theorem dX8_ringOrder_71 : decode cX8_ringOrder 71 = .ok (.iconst 2, 1) := by decide +kernel
theorem dX8_ringOrder_72 : decode cX8_ringOrder 72 = .ok (.iload 5, 2) := by decide +kernel
theorem dX8_ringOrder_74 : decode cX8_ringOrder 74 = .ok (.imul, 1) := by decide +kernel
theorem dX8_ringOrder_75 : decode cX8_ringOrder 75 = .ok (.aload_n 0, 1) := by decide +kernel
theorem dX8_ringOrder_76 : decode cX8_ringOrder 76 = .ok (.getfield 25, 3) := by decide +kernel
theorem dX8_ringOrder_79 : decode cX8_ringOrder 79 = .ok (.iload 5, 2) := by decide +kernel
theorem dX8_ringOrder_81 : decode cX8_ringOrder 81 = .ok (.iload 6, 2) := by decide +kernel
theorem dX8_ringOrder_83 : decode cX8_ringOrder 83 = .ok (.invokevirtual 159, 3) := by decide +kernel
theorem dX8_ringOrder_86 : decode cX8_ringOrder 86 = .ok (.iadd, 1) := by decide +kernel
theorem dX8_ringOrder_87 : decode cX8_ringOrder 87 = .ok (.invokevirtual 380, 3) := by decide +kernel
theorem dX8_ringOrder_90 : decode cX8_ringOrder 90 = .ok (.aload_n 0, 1) := by decide +kernel
theorem dX8_ringOrder_91 : decode cX8_ringOrder 91 = .ok (.getfield 42, 3) := by decide +kernel
theorem dX8_ringOrder_94 : decode cX8_ringOrder 94 = .ok (.iload 5, 2) := by decide +kernel
theorem dX8_ringOrder_96 : decode cX8_ringOrder 96 = .ok (.iload 6, 2) := by decide +kernel
theorem dX8_ringOrder_98 : decode cX8_ringOrder 98 = .ok (.invokevirtual 389, 3) := by decide +kernel
theorem dX8_ringOrder_101 : decode cX8_ringOrder 101 = .ok (.iinc 4 1, 3) := by decide +kernel
theorem dX8_ringOrder_104 : decode cX8_ringOrder 104 = .ok (.goto (-91), 3) := by decide +kernel
theorem dX8_ringOrder_107 : decode cX8_ringOrder 107 = .ok (.iconst 0, 1) := by decide +kernel
theorem dX8_ringOrder_108 : decode cX8_ringOrder 108 = .ok (.istore 4, 2) := by decide +kernel
theorem dX8_ringOrder_110 : decode cX8_ringOrder 110 = .ok (.iload 4, 2) := by decide +kernel
theorem dX8_ringOrder_112 : decode cX8_ringOrder 112 = .ok (.aload_n 0, 1) := by decide +kernel
theorem dX8_ringOrder_113 : decode cX8_ringOrder 113 = .ok (.getfield 25, 3) := by decide +kernel
theorem dX8_ringOrder_116 : decode cX8_ringOrder 116 = .ok (.getfield 135, 3) := by decide +kernel
theorem dX8_ringOrder_119 : decode cX8_ringOrder 119 = .ok (.if_icmp .ge 35, 3) := by decide +kernel
theorem dX8_ringOrder_122 : decode cX8_ringOrder 122 = .ok (.aload_n 0, 1) := by decide +kernel
theorem dX8_ringOrder_123 : decode cX8_ringOrder 123 = .ok (.getfield 25, 3) := by decide +kernel
theorem dX8_ringOrder_126 : decode cX8_ringOrder 126 = .ok (.getfield 137, 3) := by decide +kernel
theorem dX8_ringOrder_129 : decode cX8_ringOrder 129 = .ok (.iload 4, 2) := by decide +kernel
theorem dX8_ringOrder_131 : decode cX8_ringOrder 131 = .ok (.aaload, 1) := by decide +kernel
theorem dX8_ringOrder_132 : decode cX8_ringOrder 132 = .ok (.getfield 200, 3) := by decide +kernel
theorem dX8_ringOrder_135 : decode cX8_ringOrder 135 = .ok (.ifCond .eq 13, 3) := by decide +kernel
theorem dX8_ringOrder_138 : decode cX8_ringOrder 138 = .ok (.aload_n 0, 1) := by decide +kernel
theorem dX8_ringOrder_139 : decode cX8_ringOrder 139 = .ok (.getfield 42, 3) := by decide +kernel
theorem dX8_ringOrder_142 : decode cX8_ringOrder 142 = .ok (.iload 4, 2) := by decide +kernel
theorem dX8_ringOrder_144 : decode cX8_ringOrder 144 = .ok (.iconst 0, 1) := by decide +kernel
theorem dX8_ringOrder_145 : decode cX8_ringOrder 145 = .ok (.invokevirtual 389, 3) := by decide +kernel
theorem dX8_ringOrder_148 : decode cX8_ringOrder 148 = .ok (.iinc 4 1, 3) := by decide +kernel
theorem dX8_ringOrder_151 : decode cX8_ringOrder 151 = .ok (.goto (-41), 3) := by decide +kernel
theorem dX8_ringOrder_154 : decode cX8_ringOrder 154 = .ok (.aload_n 0, 1) := by decide +kernel
theorem dX8_ringOrder_155 : decode cX8_ringOrder 155 = .ok (.getfield 42, 3) := by decide +kernel
theorem dX8_ringOrder_158 : decode cX8_ringOrder 158 = .ok (.aload_n 0, 1) := by decide +kernel
theorem dX8_ringOrder_159 : decode cX8_ringOrder 159 = .ok (.getfield 25, 3) := by decide +kernel
theorem dX8_ringOrder_162 : decode cX8_ringOrder 162 = .ok (.getfield 135, 3) := by decide +kernel
theorem dX8_ringOrder_165 : decode cX8_ringOrder 165 = .ok (.aload_n 2, 1) := by decide +kernel
theorem dX8_ringOrder_166 : decode cX8_ringOrder 166 = .ok (.invokevirtual 283, 3) := by decide +kernel
theorem dX8_ringOrder_169 : decode cX8_ringOrder 169 = .ok (.aload_n 0, 1) := by decide +kernel
theorem dX8_ringOrder_170 : decode cX8_ringOrder 170 = .ok (.getfield 35, 3) := by decide +kernel
theorem dX8_ringOrder_173 : decode cX8_ringOrder 173 = .ok (.invokevirtual 263, 3) := by decide +kernel
theorem dX8_ringOrder_176 : decode cX8_ringOrder 176 = .ok (.ireturn, 1) := by decide +kernel
theorem dX8_slip_0 : decode cX8_slip 0 = .ok (.aload_n 0, 1) := by decide +kernel
theorem dX8_slip_1 : decode cX8_slip 1 = .ok (.getfield 56, 3) := by decide +kernel
theorem dX8_slip_4 : decode cX8_slip 4 = .ok (.aload_n 1, 1) := by decide +kernel
theorem dX8_slip_5 : decode cX8_slip 5 = .ok (.getfield 156, 3) := by decide +kernel
theorem dX8_slip_8 : decode cX8_slip 8 = .ok (.invokevirtual 230, 3) := by decide +kernel
theorem dX8_slip_11 : decode cX8_slip 11 = .ok (.lconst 1, 1) := by decide +kernel
theorem dX8_slip_12 : decode cX8_slip 12 = .ok (.lstore 5, 2) := by decide +kernel
theorem dX8_slip_14 : decode cX8_slip 14 = .ok (.iconst 0, 1) := by decide +kernel
theorem dX8_slip_15 : decode cX8_slip 15 = .ok (.istore 7, 2) := by decide +kernel
theorem dX8_slip_17 : decode cX8_slip 17 = .ok (.iload 7, 2) := by decide +kernel
theorem dX8_slip_19 : decode cX8_slip 19 = .ok (.iload_n 3, 1) := by decide +kernel
theorem dX8_slip_20 : decode cX8_slip 20 = .ok (.if_icmp .ge 59, 3) := by decide +kernel
theorem dX8_slip_23 : decode cX8_slip 23 = .ok (.aload_n 0, 1) := by decide +kernel
theorem dX8_slip_24 : decode cX8_slip 24 = .ok (.getfield 56, 3) := by decide +kernel
theorem dX8_slip_27 : decode cX8_slip 27 = .ok (.aload_n 1, 1) := by decide +kernel
theorem dX8_slip_28 : decode cX8_slip 28 = .ok (.getfield 146, 3) := by decide +kernel
theorem dX8_slip_31 : decode cX8_slip 31 = .ok (.iload_n 2, 1) := by decide +kernel
theorem dX8_slip_32 : decode cX8_slip 32 = .ok (.bipush 12, 2) := by decide +kernel
theorem dX8_slip_34 : decode cX8_slip 34 = .ok (.iload 4, 2) := by decide +kernel
theorem dX8_slip_36 : decode cX8_slip 36 = .ok (.isub, 1) := by decide +kernel
theorem dX8_slip_37 : decode cX8_slip 37 = .ok (.i2l, 1) := by decide +kernel
theorem dX8_slip_38 : decode cX8_slip 38 = .ok (.invokevirtual 233, 3) := by decide +kernel
theorem dX8_slip_41 : decode cX8_slip 41 = .ok (.aload_n 0, 1) := by decide +kernel
theorem dX8_slip_42 : decode cX8_slip 42 = .ok (.getfield 56, 3) := by decide +kernel
theorem dX8_slip_45 : decode cX8_slip 45 = .ok (.aload_n 1, 1) := by decide +kernel
theorem dX8_slip_46 : decode cX8_slip 46 = .ok (.getfield 146, 3) := by decide +kernel
theorem dX8_slip_49 : decode cX8_slip 49 = .ok (.iload_n 2, 1) := by decide +kernel
theorem dX8_slip_50 : decode cX8_slip 50 = .ok (.iconst 1, 1) := by decide +kernel
theorem dX8_slip_51 : decode cX8_slip 51 = .ok (.iadd, 1) := by decide +kernel
theorem dX8_slip_52 : decode cX8_slip 52 = .ok (.iload 4, 2) := by decide +kernel
theorem dX8_slip_54 : decode cX8_slip 54 = .ok (.i2l, 1) := by decide +kernel
theorem dX8_slip_55 : decode cX8_slip 55 = .ok (.invokevirtual 233, 3) := by decide +kernel
theorem dX8_slip_58 : decode cX8_slip 58 = .ok (.aload_n 0, 1) := by decide +kernel
theorem dX8_slip_59 : decode cX8_slip 59 = .ok (.getfield 56, 3) := by decide +kernel
theorem dX8_slip_62 : decode cX8_slip 62 = .ok (.invokevirtual 237, 3) := by decide +kernel
theorem dX8_slip_65 : decode cX8_slip 65 = .ok (.lload 5, 2) := by decide +kernel
theorem dX8_slip_67 : decode cX8_slip 67 = .ok (.ldc2_w 392, 3) := by decide +kernel
theorem dX8_slip_70 : decode cX8_slip 70 = .ok (.lmul, 1) := by decide +kernel
theorem dX8_slip_71 : decode cX8_slip 71 = .ok (.lstore 5, 2) := by decide +kernel
theorem dX8_slip_73 : decode cX8_slip 73 = .ok (.iinc 7 1, 3) := by decide +kernel
theorem dX8_slip_76 : decode cX8_slip 76 = .ok (.goto (-59), 3) := by decide +kernel
theorem dX8_slip_79 : decode cX8_slip 79 = .ok (.lload 5, 2) := by decide +kernel
theorem dX8_slip_81 : decode cX8_slip 81 = .ok (.lreturn, 1) := by decide +kernel
theorem dX8_fits_0 : decode cX8_fits 0 = .ok (.iload 4, 2) := by decide +kernel
theorem dX8_fits_2 : decode cX8_fits 2 = .ok (.istore 5, 2) := by decide +kernel
theorem dX8_fits_4 : decode cX8_fits 4 = .ok (.iconst 0, 1) := by decide +kernel
theorem dX8_fits_5 : decode cX8_fits 5 = .ok (.istore 6, 2) := by decide +kernel
theorem dX8_fits_7 : decode cX8_fits 7 = .ok (.iload 6, 2) := by decide +kernel
theorem dX8_fits_9 : decode cX8_fits 9 = .ok (.iconst 1, 1) := by decide +kernel
theorem dX8_fits_10 : decode cX8_fits 10 = .ok (.iadd, 1) := by decide +kernel
theorem dX8_fits_11 : decode cX8_fits 11 = .ok (.aload_n 0, 1) := by decide +kernel
theorem dX8_fits_12 : decode cX8_fits 12 = .ok (.getfield 105, 3) := by decide +kernel
theorem dX8_fits_15 : decode cX8_fits 15 = .ok (.if_icmp .ge 52, 3) := by decide +kernel
theorem dX8_fits_18 : decode cX8_fits 18 = .ok (.iload 5, 2) := by decide +kernel
theorem dX8_fits_20 : decode cX8_fits 20 = .ok (.iconst (-1), 1) := by decide +kernel
theorem dX8_fits_21 : decode cX8_fits 21 = .ok (.if_icmp .eq 18, 3) := by decide +kernel
theorem dX8_fits_24 : decode cX8_fits 24 = .ok (.iload_n 1, 1) := by decide +kernel
theorem dX8_fits_25 : decode cX8_fits 25 = .ok (.iload 5, 2) := by decide +kernel
theorem dX8_fits_27 : decode cX8_fits 27 = .ok (.aload_n 0, 1) := by decide +kernel
theorem dX8_fits_28 : decode cX8_fits 28 = .ok (.getfield 90, 3) := by decide +kernel
theorem dX8_fits_31 : decode cX8_fits 31 = .ok (.iload 6, 2) := by decide +kernel
theorem dX8_fits_33 : decode cX8_fits 33 = .ok (.iaload, 1) := by decide +kernel
theorem dX8_fits_34 : decode cX8_fits 34 = .ok (.invokestatic 215, 3) := by decide +kernel
theorem dX8_fits_37 : decode cX8_fits 37 = .ok (.istore 5, 2) := by decide +kernel
theorem dX8_fits_39 : decode cX8_fits 39 = .ok (.iload_n 1, 1) := by decide +kernel
theorem dX8_fits_40 : decode cX8_fits 40 = .ok (.iload_n 2, 1) := by decide +kernel
theorem dX8_fits_41 : decode cX8_fits 41 = .ok (.iload_n 3, 1) := by decide +kernel
theorem dX8_fits_42 : decode cX8_fits 42 = .ok (.iload 5, 2) := by decide +kernel
theorem dX8_fits_44 : decode cX8_fits 44 = .ok (.invokestatic 394, 3) := by decide +kernel
theorem dX8_fits_47 : decode cX8_fits 47 = .ok (.aload_n 0, 1) := by decide +kernel
theorem dX8_fits_48 : decode cX8_fits 48 = .ok (.getfield 90, 3) := by decide +kernel
theorem dX8_fits_51 : decode cX8_fits 51 = .ok (.iload 6, 2) := by decide +kernel
theorem dX8_fits_53 : decode cX8_fits 53 = .ok (.iconst 1, 1) := by decide +kernel
theorem dX8_fits_54 : decode cX8_fits 54 = .ok (.iadd, 1) := by decide +kernel
theorem dX8_fits_55 : decode cX8_fits 55 = .ok (.iaload, 1) := by decide +kernel
theorem dX8_fits_56 : decode cX8_fits 56 = .ok (.if_icmp .eq 5, 3) := by decide +kernel
theorem dX8_fits_59 : decode cX8_fits 59 = .ok (.iconst 0, 1) := by decide +kernel
theorem dX8_fits_60 : decode cX8_fits 60 = .ok (.ireturn, 1) := by decide +kernel
theorem dX8_fits_61 : decode cX8_fits 61 = .ok (.iinc 6 2, 3) := by decide +kernel
theorem dX8_fits_64 : decode cX8_fits 64 = .ok (.goto (-57), 3) := by decide +kernel
theorem dX8_fits_67 : decode cX8_fits 67 = .ok (.iconst 1, 1) := by decide +kernel
theorem dX8_fits_68 : decode cX8_fits 68 = .ok (.ireturn, 1) := by decide +kernel
theorem dX8_thereOf_0 : decode cX8_thereOf 0 = .ok (.iconst 0, 1) := by decide +kernel
theorem dX8_thereOf_1 : decode cX8_thereOf 1 = .ok (.istore_n 1, 1) := by decide +kernel
theorem dX8_thereOf_2 : decode cX8_thereOf 2 = .ok (.iconst 0, 1) := by decide +kernel
theorem dX8_thereOf_3 : decode cX8_thereOf 3 = .ok (.istore_n 2, 1) := by decide +kernel
theorem dX8_thereOf_4 : decode cX8_thereOf 4 = .ok (.iload_n 2, 1) := by decide +kernel
theorem dX8_thereOf_5 : decode cX8_thereOf 5 = .ok (.aload_n 0, 1) := by decide +kernel
theorem dX8_thereOf_6 : decode cX8_thereOf 6 = .ok (.arraylength, 1) := by decide +kernel
theorem dX8_thereOf_7 : decode cX8_thereOf 7 = .ok (.if_icmp .ge 27, 3) := by decide +kernel
theorem dX8_thereOf_10 : decode cX8_thereOf 10 = .ok (.aload_n 0, 1) := by decide +kernel
theorem dX8_thereOf_11 : decode cX8_thereOf 11 = .ok (.iload_n 2, 1) := by decide +kernel
theorem dX8_thereOf_12 : decode cX8_thereOf 12 = .ok (.aaload, 1) := by decide +kernel
theorem dX8_thereOf_13 : decode cX8_thereOf 13 = .ok (.ifnull 15, 3) := by decide +kernel
theorem dX8_thereOf_16 : decode cX8_thereOf 16 = .ok (.aload_n 0, 1) := by decide +kernel
theorem dX8_thereOf_17 : decode cX8_thereOf 17 = .ok (.iload_n 2, 1) := by decide +kernel
theorem dX8_thereOf_18 : decode cX8_thereOf 18 = .ok (.aaload, 1) := by decide +kernel
theorem dX8_thereOf_19 : decode cX8_thereOf 19 = .ok (.getfield 97, 3) := by decide +kernel
theorem dX8_thereOf_22 : decode cX8_thereOf 22 = .ok (.ifCond .eq 6, 3) := by decide +kernel
theorem dX8_thereOf_25 : decode cX8_thereOf 25 = .ok (.iinc 1 1, 3) := by decide +kernel
theorem dX8_thereOf_28 : decode cX8_thereOf 28 = .ok (.iinc 2 1, 3) := by decide +kernel
theorem dX8_thereOf_31 : decode cX8_thereOf 31 = .ok (.goto (-27), 3) := by decide +kernel
theorem dX8_thereOf_34 : decode cX8_thereOf 34 = .ok (.iload_n 1, 1) := by decide +kernel
theorem dX8_thereOf_35 : decode cX8_thereOf 35 = .ok (.ireturn, 1) := by decide +kernel
theorem dX8_keptTowers_0 : decode cX8_keptTowers 0 = .ok (.iconst 0, 1) := by decide +kernel
theorem dX8_keptTowers_1 : decode cX8_keptTowers 1 = .ok (.istore_n 1, 1) := by decide +kernel
theorem dX8_keptTowers_2 : decode cX8_keptTowers 2 = .ok (.iconst 0, 1) := by decide +kernel
theorem dX8_keptTowers_3 : decode cX8_keptTowers 3 = .ok (.istore_n 2, 1) := by decide +kernel
theorem dX8_keptTowers_4 : decode cX8_keptTowers 4 = .ok (.iload_n 2, 1) := by decide +kernel
theorem dX8_keptTowers_5 : decode cX8_keptTowers 5 = .ok (.iconst 3, 1) := by decide +kernel
theorem dX8_keptTowers_6 : decode cX8_keptTowers 6 = .ok (.if_icmp .ge 24, 3) := by decide +kernel
theorem dX8_keptTowers_9 : decode cX8_keptTowers 9 = .ok (.aload_n 0, 1) := by decide +kernel
theorem dX8_keptTowers_10 : decode cX8_keptTowers 10 = .ok (.getfield 20, 3) := by decide +kernel
theorem dX8_keptTowers_13 : decode cX8_keptTowers 13 = .ok (.iload_n 2, 1) := by decide +kernel
theorem dX8_keptTowers_14 : decode cX8_keptTowers 14 = .ok (.aaload, 1) := by decide +kernel
theorem dX8_keptTowers_15 : decode cX8_keptTowers 15 = .ok (.getfield 135, 3) := by decide +kernel
theorem dX8_keptTowers_18 : decode cX8_keptTowers 18 = .ok (.ifCond .le 6, 3) := by decide +kernel
theorem dX8_keptTowers_21 : decode cX8_keptTowers 21 = .ok (.iinc 1 1, 3) := by decide +kernel
theorem dX8_keptTowers_24 : decode cX8_keptTowers 24 = .ok (.iinc 2 1, 3) := by decide +kernel
theorem dX8_keptTowers_27 : decode cX8_keptTowers 27 = .ok (.goto (-23), 3) := by decide +kernel
theorem dX8_keptTowers_30 : decode cX8_keptTowers 30 = .ok (.iload_n 1, 1) := by decide +kernel
theorem dX8_keptTowers_31 : decode cX8_keptTowers 31 = .ok (.ireturn, 1) := by decide +kernel
theorem dX8_scan_0 : decode cX8_scan 0 = .ok (.aload_n 0, 1) := by decide +kernel
theorem dX8_scan_1 : decode cX8_scan 1 = .ok (.getfield 29, 3) := by decide +kernel
theorem dX8_scan_4 : decode cX8_scan 4 = .ok (.invokevirtual 132, 3) := by decide +kernel
theorem dX8_scan_7 : decode cX8_scan 7 = .ok (.aload_n 1, 1) := by decide +kernel
theorem dX8_scan_8 : decode cX8_scan 8 = .ok (.iconst 0, 1) := by decide +kernel
theorem dX8_scan_9 : decode cX8_scan 9 = .ok (.invokevirtual 397, 3) := by decide +kernel
theorem dX8_scan_12 : decode cX8_scan 12 = .ok (.istore_n 2, 1) := by decide +kernel
theorem dX8_scan_13 : decode cX8_scan 13 = .ok (.aload_n 1, 1) := by decide +kernel
theorem dX8_scan_14 : decode cX8_scan 14 = .ok (.iload_n 2, 1) := by decide +kernel
theorem dX8_scan_15 : decode cX8_scan 15 = .ok (.invokevirtual 400, 3) := by decide +kernel
theorem dX8_scan_18 : decode cX8_scan 18 = .ok (.bipush 100, 2) := by decide +kernel
theorem dX8_scan_20 : decode cX8_scan 20 = .ok (.if_icmp .eq 5, 3) := by decide +kernel
theorem dX8_scan_23 : decode cX8_scan 23 = .ok (.iload_n 2, 1) := by decide +kernel
theorem dX8_scan_24 : decode cX8_scan 24 = .ok (.ireturn, 1) := by decide +kernel
theorem dX8_scan_25 : decode cX8_scan 25 = .ok (.aload_n 1, 1) := by decide +kernel
theorem dX8_scan_26 : decode cX8_scan 26 = .ok (.iload_n 2, 1) := by decide +kernel
theorem dX8_scan_27 : decode cX8_scan 27 = .ok (.iconst 1, 1) := by decide +kernel
theorem dX8_scan_28 : decode cX8_scan 28 = .ok (.iadd, 1) := by decide +kernel
theorem dX8_scan_29 : decode cX8_scan 29 = .ok (.iconst 0, 1) := by decide +kernel
theorem dX8_scan_30 : decode cX8_scan 30 = .ok (.iconst 3, 1) := by decide +kernel
theorem dX8_scan_31 : decode cX8_scan 31 = .ok (.invokevirtual 403, 3) := by decide +kernel
theorem dX8_scan_34 : decode cX8_scan 34 = .ok (.ifCond .ne 7, 3) := by decide +kernel
theorem dX8_scan_37 : decode cX8_scan 37 = .ok (.iload_n 2, 1) := by decide +kernel
theorem dX8_scan_38 : decode cX8_scan 38 = .ok (.iconst 1, 1) := by decide +kernel
theorem dX8_scan_39 : decode cX8_scan 39 = .ok (.iadd, 1) := by decide +kernel
theorem dX8_scan_40 : decode cX8_scan 40 = .ok (.ireturn, 1) := by decide +kernel
theorem dX8_scan_41 : decode cX8_scan 41 = .ok (.aload_n 0, 1) := by decide +kernel
theorem dX8_scan_42 : decode cX8_scan 42 = .ok (.getfield 29, 3) := by decide +kernel
theorem dX8_scan_45 : decode cX8_scan 45 = .ok (.aload_n 1, 1) := by decide +kernel
theorem dX8_scan_46 : decode cX8_scan 46 = .ok (.iload_n 2, 1) := by decide +kernel
theorem dX8_scan_47 : decode cX8_scan 47 = .ok (.iconst 1, 1) := by decide +kernel
theorem dX8_scan_48 : decode cX8_scan 48 = .ok (.iadd, 1) := by decide +kernel
theorem dX8_scan_49 : decode cX8_scan 49 = .ok (.invokevirtual 407, 3) := by decide +kernel
theorem dX8_scan_52 : decode cX8_scan 52 = .ok (.putfield 168, 3) := by decide +kernel
theorem dX8_scan_55 : decode cX8_scan 55 = .ok (.aload_n 1, 1) := by decide +kernel
theorem dX8_scan_56 : decode cX8_scan 56 = .ok (.iload_n 2, 1) := by decide +kernel
theorem dX8_scan_57 : decode cX8_scan 57 = .ok (.iconst 2, 1) := by decide +kernel
theorem dX8_scan_58 : decode cX8_scan 58 = .ok (.iadd, 1) := by decide +kernel
theorem dX8_scan_59 : decode cX8_scan 59 = .ok (.invokevirtual 397, 3) := by decide +kernel
theorem dX8_scan_62 : decode cX8_scan 62 = .ok (.istore_n 2, 1) := by decide +kernel
theorem dX8_scan_63 : decode cX8_scan 63 = .ok (.iconst 0, 1) := by decide +kernel
theorem dX8_scan_64 : decode cX8_scan 64 = .ok (.istore_n 3, 1) := by decide +kernel
theorem dX8_scan_65 : decode cX8_scan 65 = .ok (.iload_n 3, 1) := by decide +kernel
theorem dX8_scan_66 : decode cX8_scan 66 = .ok (.bipush 6, 2) := by decide +kernel
theorem dX8_scan_68 : decode cX8_scan 68 = .ok (.if_icmp .gt 104, 3) := by decide +kernel
theorem dX8_scan_71 : decode cX8_scan 71 = .ok (.iload_n 3, 1) := by decide +kernel
theorem dX8_scan_72 : decode cX8_scan 72 = .ok (.ifCond .le 14, 3) := by decide +kernel
theorem dX8_scan_75 : decode cX8_scan 75 = .ok (.iload_n 2, 1) := by decide +kernel
theorem dX8_scan_76 : decode cX8_scan 76 = .ok (.aload_n 1, 1) := by decide +kernel
theorem dX8_scan_77 : decode cX8_scan 77 = .ok (.getfield 105, 3) := by decide +kernel
theorem dX8_scan_80 : decode cX8_scan 80 = .ok (.if_icmp .lt 6, 3) := by decide +kernel
theorem dX8_scan_83 : decode cX8_scan 83 = .ok (.bipush (-9), 2) := by decide +kernel
theorem dX8_scan_85 : decode cX8_scan 85 = .ok (.ireturn, 1) := by decide +kernel
theorem dX8_scan_86 : decode cX8_scan 86 = .ok (.iload_n 3, 1) := by decide +kernel
theorem dX8_scan_87 : decode cX8_scan 87 = .ok (.bipush 6, 2) := by decide +kernel
theorem dX8_scan_89 : decode cX8_scan 89 = .ok (.if_icmp .ge 11, 3) := by decide +kernel
theorem dX8_scan_92 : decode cX8_scan 92 = .ok (.aload_n 1, 1) := by decide +kernel
theorem dX8_scan_93 : decode cX8_scan 93 = .ok (.iload_n 2, 1) := by decide +kernel
theorem dX8_scan_94 : decode cX8_scan 94 = .ok (.invokestatic 410, 3) := by decide +kernel
theorem dX8_scan_97 : decode cX8_scan 97 = .ok (.goto 4, 3) := by decide +kernel
theorem dX8_scan_100 : decode cX8_scan 100 = .ok (.iconst 0, 1) := by decide +kernel
theorem dX8_scan_101 : decode cX8_scan 101 = .ok (.istore 4, 2) := by decide +kernel
theorem dX8_scan_103 : decode cX8_scan 103 = .ok (.iload 4, 2) := by decide +kernel
theorem dX8_scan_105 : decode cX8_scan 105 = .ok (.iconst 4, 1) := by decide +kernel
theorem dX8_scan_106 : decode cX8_scan 106 = .ok (.if_icmp .ge 8, 3) := by decide +kernel
theorem dX8_scan_109 : decode cX8_scan 109 = .ok (.iload_n 2, 1) := by decide +kernel
theorem dX8_scan_110 : decode cX8_scan 110 = .ok (.iload 4, 2) := by decide +kernel
theorem dX8_scan_112 : decode cX8_scan 112 = .ok (.iadd, 1) := by decide +kernel
theorem dX8_scan_113 : decode cX8_scan 113 = .ok (.ireturn, 1) := by decide +kernel
theorem dX8_scan_114 : decode cX8_scan 114 = .ok (.bipush 10, 2) := by decide +kernel
theorem dX8_scan_116 : decode cX8_scan 116 = .ok (.aload_n 1, 1) := by decide +kernel
theorem dX8_scan_117 : decode cX8_scan 117 = .ok (.iload_n 2, 1) := by decide +kernel
theorem dX8_scan_118 : decode cX8_scan 118 = .ok (.iconst 2, 1) := by decide +kernel
theorem dX8_scan_119 : decode cX8_scan 119 = .ok (.iadd, 1) := by decide +kernel
theorem dX8_scan_120 : decode cX8_scan 120 = .ok (.invokevirtual 407, 3) := by decide +kernel
theorem dX8_scan_123 : decode cX8_scan 123 = .ok (.imul, 1) := by decide +kernel
theorem dX8_scan_124 : decode cX8_scan 124 = .ok (.aload_n 1, 1) := by decide +kernel
theorem dX8_scan_125 : decode cX8_scan 125 = .ok (.iload_n 2, 1) := by decide +kernel
theorem dX8_scan_126 : decode cX8_scan 126 = .ok (.iconst 3, 1) := by decide +kernel
theorem dX8_scan_127 : decode cX8_scan 127 = .ok (.iadd, 1) := by decide +kernel
theorem dX8_scan_128 : decode cX8_scan 128 = .ok (.invokevirtual 407, 3) := by decide +kernel
theorem dX8_scan_131 : decode cX8_scan 131 = .ok (.iadd, 1) := by decide +kernel
theorem dX8_scan_132 : decode cX8_scan 132 = .ok (.istore 5, 2) := by decide +kernel
theorem dX8_scan_134 : decode cX8_scan 134 = .ok (.aload_n 0, 1) := by decide +kernel
theorem dX8_scan_135 : decode cX8_scan 135 = .ok (.getfield 29, 3) := by decide +kernel
theorem dX8_scan_138 : decode cX8_scan 138 = .ok (.aload_n 1, 1) := by decide +kernel
theorem dX8_scan_139 : decode cX8_scan 139 = .ok (.iload_n 2, 1) := by decide +kernel
theorem dX8_scan_140 : decode cX8_scan 140 = .ok (.invokevirtual 400, 3) := by decide +kernel
theorem dX8_scan_143 : decode cX8_scan 143 = .ok (.invokestatic 414, 3) := by decide +kernel
theorem dX8_scan_146 : decode cX8_scan 146 = .ok (.aload_n 1, 1) := by decide +kernel
theorem dX8_scan_147 : decode cX8_scan 147 = .ok (.iload_n 2, 1) := by decide +kernel
theorem dX8_scan_148 : decode cX8_scan 148 = .ok (.iconst 1, 1) := by decide +kernel
theorem dX8_scan_149 : decode cX8_scan 149 = .ok (.iadd, 1) := by decide +kernel
theorem dX8_scan_150 : decode cX8_scan 150 = .ok (.invokevirtual 407, 3) := by decide +kernel
theorem dX8_scan_153 : decode cX8_scan 153 = .ok (.iload 5, 2) := by decide +kernel
theorem dX8_scan_155 : decode cX8_scan 155 = .ok (.invokevirtual 417, 3) := by decide +kernel
theorem dX8_scan_158 : decode cX8_scan 158 = .ok (.aload_n 1, 1) := by decide +kernel
theorem dX8_scan_159 : decode cX8_scan 159 = .ok (.iload_n 2, 1) := by decide +kernel
theorem dX8_scan_160 : decode cX8_scan 160 = .ok (.iconst 4, 1) := by decide +kernel
theorem dX8_scan_161 : decode cX8_scan 161 = .ok (.iadd, 1) := by decide +kernel
theorem dX8_scan_162 : decode cX8_scan 162 = .ok (.invokevirtual 397, 3) := by decide +kernel
theorem dX8_scan_165 : decode cX8_scan 165 = .ok (.istore_n 2, 1) := by decide +kernel
theorem dX8_scan_166 : decode cX8_scan 166 = .ok (.iinc 3 1, 3) := by decide +kernel
theorem dX8_scan_169 : decode cX8_scan 169 = .ok (.goto (-104), 3) := by decide +kernel
theorem dX8_scan_172 : decode cX8_scan 172 = .ok (.iload_n 2, 1) := by decide +kernel
theorem dX8_scan_173 : decode cX8_scan 173 = .ok (.ireturn, 1) := by decide +kernel
theorem dX8_itemSigns_0 : decode cX8_itemSigns 0 = .ok (.aload_n 0, 1) := by decide +kernel
theorem dX8_itemSigns_1 : decode cX8_itemSigns 1 = .ok (.iload_n 1, 1) := by decide +kernel
theorem dX8_itemSigns_2 : decode cX8_itemSigns 2 = .ok (.invokevirtual 400, 3) := by decide +kernel
theorem dX8_itemSigns_5 : decode cX8_itemSigns 5 = .ok (.invokestatic 414, 3) := by decide +kernel
theorem dX8_itemSigns_8 : decode cX8_itemSigns 8 = .ok (.bipush (-9), 2) := by decide +kernel
theorem dX8_itemSigns_10 : decode cX8_itemSigns 10 = .ok (.if_icmp .ne 5, 3) := by decide +kernel
theorem dX8_itemSigns_13 : decode cX8_itemSigns 13 = .ok (.iconst 0, 1) := by decide +kernel
theorem dX8_itemSigns_14 : decode cX8_itemSigns 14 = .ok (.ireturn, 1) := by decide +kernel
theorem dX8_itemSigns_15 : decode cX8_itemSigns 15 = .ok (.aload_n 0, 1) := by decide +kernel
theorem dX8_itemSigns_16 : decode cX8_itemSigns 16 = .ok (.iload_n 1, 1) := by decide +kernel
theorem dX8_itemSigns_17 : decode cX8_itemSigns 17 = .ok (.iconst 1, 1) := by decide +kernel
theorem dX8_itemSigns_18 : decode cX8_itemSigns 18 = .ok (.iadd, 1) := by decide +kernel
theorem dX8_itemSigns_19 : decode cX8_itemSigns 19 = .ok (.iconst 1, 1) := by decide +kernel
theorem dX8_itemSigns_20 : decode cX8_itemSigns 20 = .ok (.bipush 9, 2) := by decide +kernel
theorem dX8_itemSigns_22 : decode cX8_itemSigns 22 = .ok (.invokevirtual 403, 3) := by decide +kernel
theorem dX8_itemSigns_25 : decode cX8_itemSigns 25 = .ok (.ifCond .ne 5, 3) := by decide +kernel
theorem dX8_itemSigns_28 : decode cX8_itemSigns 28 = .ok (.iconst 1, 1) := by decide +kernel
theorem dX8_itemSigns_29 : decode cX8_itemSigns 29 = .ok (.ireturn, 1) := by decide +kernel
theorem dX8_itemSigns_30 : decode cX8_itemSigns 30 = .ok (.aload_n 0, 1) := by decide +kernel
theorem dX8_itemSigns_31 : decode cX8_itemSigns 31 = .ok (.iload_n 1, 1) := by decide +kernel
theorem dX8_itemSigns_32 : decode cX8_itemSigns 32 = .ok (.iconst 2, 1) := by decide +kernel
theorem dX8_itemSigns_33 : decode cX8_itemSigns 33 = .ok (.iadd, 1) := by decide +kernel
theorem dX8_itemSigns_34 : decode cX8_itemSigns 34 = .ok (.iconst 0, 1) := by decide +kernel
theorem dX8_itemSigns_35 : decode cX8_itemSigns 35 = .ok (.iconst 2, 1) := by decide +kernel
theorem dX8_itemSigns_36 : decode cX8_itemSigns 36 = .ok (.invokevirtual 403, 3) := by decide +kernel
theorem dX8_itemSigns_39 : decode cX8_itemSigns 39 = .ok (.ifCond .ne 5, 3) := by decide +kernel
theorem dX8_itemSigns_42 : decode cX8_itemSigns 42 = .ok (.iconst 2, 1) := by decide +kernel
theorem dX8_itemSigns_43 : decode cX8_itemSigns 43 = .ok (.ireturn, 1) := by decide +kernel
theorem dX8_itemSigns_44 : decode cX8_itemSigns 44 = .ok (.aload_n 0, 1) := by decide +kernel
theorem dX8_itemSigns_45 : decode cX8_itemSigns 45 = .ok (.iload_n 1, 1) := by decide +kernel
theorem dX8_itemSigns_46 : decode cX8_itemSigns 46 = .ok (.iconst 3, 1) := by decide +kernel
theorem dX8_itemSigns_47 : decode cX8_itemSigns 47 = .ok (.iadd, 1) := by decide +kernel
theorem dX8_itemSigns_48 : decode cX8_itemSigns 48 = .ok (.iconst 0, 1) := by decide +kernel
theorem dX8_itemSigns_49 : decode cX8_itemSigns 49 = .ok (.bipush 9, 2) := by decide +kernel
theorem dX8_itemSigns_51 : decode cX8_itemSigns 51 = .ok (.bipush 20, 2) := by decide +kernel
theorem dX8_itemSigns_53 : decode cX8_itemSigns 53 = .ok (.bipush 10, 2) := by decide +kernel
theorem dX8_itemSigns_55 : decode cX8_itemSigns 55 = .ok (.aload_n 0, 1) := by decide +kernel
theorem dX8_itemSigns_56 : decode cX8_itemSigns 56 = .ok (.iload_n 1, 1) := by decide +kernel
theorem dX8_itemSigns_57 : decode cX8_itemSigns 57 = .ok (.iconst 2, 1) := by decide +kernel
theorem dX8_itemSigns_58 : decode cX8_itemSigns 58 = .ok (.iadd, 1) := by decide +kernel
theorem dX8_itemSigns_59 : decode cX8_itemSigns 59 = .ok (.invokevirtual 407, 3) := by decide +kernel
theorem dX8_itemSigns_62 : decode cX8_itemSigns 62 = .ok (.imul, 1) := by decide +kernel
theorem dX8_itemSigns_63 : decode cX8_itemSigns 63 = .ok (.isub, 1) := by decide +kernel
theorem dX8_itemSigns_64 : decode cX8_itemSigns 64 = .ok (.invokestatic 420, 3) := by decide +kernel
theorem dX8_itemSigns_67 : decode cX8_itemSigns 67 = .ok (.invokevirtual 403, 3) := by decide +kernel
theorem dX8_itemSigns_70 : decode cX8_itemSigns 70 = .ok (.ifCond .eq 7, 3) := by decide +kernel
theorem dX8_itemSigns_73 : decode cX8_itemSigns 73 = .ok (.iconst 4, 1) := by decide +kernel
theorem dX8_itemSigns_74 : decode cX8_itemSigns 74 = .ok (.goto 4, 3) := by decide +kernel
theorem dX8_itemSigns_77 : decode cX8_itemSigns 77 = .ok (.iconst 3, 1) := by decide +kernel
theorem dX8_itemSigns_78 : decode cX8_itemSigns 78 = .ok (.ireturn, 1) := by decide +kernel
theorem dX8_kindOf_0 : decode cX8_kindOf 0 = .ok (.iload_n 0, 1) := by decide +kernel
theorem dX8_kindOf_1 : decode cX8_kindOf 1 = .ok (.tableswitch 103 98 116 #[91, 103, 103, 103, 103, 99, 93, 103, 103, 103, 103, 103, 97, 103, 103, 95, 103, 103, 101], 91) := by decide +kernel
theorem dX8_kindOf_92 : decode cX8_kindOf 92 = .ok (.iconst 0, 1) := by decide +kernel
theorem dX8_kindOf_93 : decode cX8_kindOf 93 = .ok (.ireturn, 1) := by decide +kernel
theorem dX8_kindOf_94 : decode cX8_kindOf 94 = .ok (.iconst 1, 1) := by decide +kernel
theorem dX8_kindOf_95 : decode cX8_kindOf 95 = .ok (.ireturn, 1) := by decide +kernel
theorem dX8_kindOf_96 : decode cX8_kindOf 96 = .ok (.iconst 2, 1) := by decide +kernel
theorem dX8_kindOf_97 : decode cX8_kindOf 97 = .ok (.ireturn, 1) := by decide +kernel
theorem dX8_kindOf_98 : decode cX8_kindOf 98 = .ok (.iconst 3, 1) := by decide +kernel
theorem dX8_kindOf_99 : decode cX8_kindOf 99 = .ok (.ireturn, 1) := by decide +kernel
theorem dX8_kindOf_100 : decode cX8_kindOf 100 = .ok (.iconst 4, 1) := by decide +kernel
theorem dX8_kindOf_101 : decode cX8_kindOf 101 = .ok (.ireturn, 1) := by decide +kernel
theorem dX8_kindOf_102 : decode cX8_kindOf 102 = .ok (.iconst 5, 1) := by decide +kernel
theorem dX8_kindOf_103 : decode cX8_kindOf 103 = .ok (.ireturn, 1) := by decide +kernel
theorem dX8_kindOf_104 : decode cX8_kindOf 104 = .ok (.bipush (-9), 2) := by decide +kernel
theorem dX8_kindOf_106 : decode cX8_kindOf 106 = .ok (.ireturn, 1) := by decide +kernel
theorem dX8_isOf_0 : decode cX8_isOf 0 = .ok (.iload_n 0, 1) := by decide +kernel
theorem dX8_isOf_1 : decode cX8_isOf 1 = .ok (.iload_n 1, 1) := by decide +kernel
theorem dX8_isOf_2 : decode cX8_isOf 2 = .ok (.if_icmp .eq 27, 3) := by decide +kernel
theorem dX8_isOf_5 : decode cX8_isOf 5 = .ok (.iload_n 1, 1) := by decide +kernel
theorem dX8_isOf_6 : decode cX8_isOf 6 = .ok (.ifCond .eq 23, 3) := by decide +kernel
theorem dX8_isOf_9 : decode cX8_isOf 9 = .ok (.iload_n 0, 1) := by decide +kernel
theorem dX8_isOf_10 : decode cX8_isOf 10 = .ok (.iconst 4, 1) := by decide +kernel
theorem dX8_isOf_11 : decode cX8_isOf 11 = .ok (.if_icmp .ne 8, 3) := by decide +kernel
theorem dX8_isOf_14 : decode cX8_isOf 14 = .ok (.iload_n 1, 1) := by decide +kernel
theorem dX8_isOf_15 : decode cX8_isOf 15 = .ok (.iconst 1, 1) := by decide +kernel
theorem dX8_isOf_16 : decode cX8_isOf 16 = .ok (.if_icmp .eq 13, 3) := by decide +kernel
theorem dX8_isOf_19 : decode cX8_isOf 19 = .ok (.iload_n 0, 1) := by decide +kernel
theorem dX8_isOf_20 : decode cX8_isOf 20 = .ok (.iconst 5, 1) := by decide +kernel
theorem dX8_isOf_21 : decode cX8_isOf 21 = .ok (.if_icmp .ne 12, 3) := by decide +kernel
theorem dX8_isOf_24 : decode cX8_isOf 24 = .ok (.iload_n 1, 1) := by decide +kernel
theorem dX8_isOf_25 : decode cX8_isOf 25 = .ok (.iconst 2, 1) := by decide +kernel
theorem dX8_isOf_26 : decode cX8_isOf 26 = .ok (.if_icmp .ne 7, 3) := by decide +kernel
theorem dX8_isOf_29 : decode cX8_isOf 29 = .ok (.iconst 1, 1) := by decide +kernel
theorem dX8_isOf_30 : decode cX8_isOf 30 = .ok (.goto 4, 3) := by decide +kernel
theorem dX8_isOf_33 : decode cX8_isOf 33 = .ok (.iconst 0, 1) := by decide +kernel
theorem dX8_isOf_34 : decode cX8_isOf 34 = .ok (.ireturn, 1) := by decide +kernel
theorem dX8_after_0 : decode cX8_after 0 = .ok (.iload_n 0, 1) := by decide +kernel
theorem dX8_after_1 : decode cX8_after 1 = .ok (.iconst 1, 1) := by decide +kernel
theorem dX8_after_2 : decode cX8_after 2 = .ok (.invokestatic 149, 3) := by decide +kernel
theorem dX8_after_5 : decode cX8_after 5 = .ok (.ifCond .eq 9, 3) := by decide +kernel
theorem dX8_after_8 : decode cX8_after 8 = .ok (.iload_n 2, 1) := by decide +kernel
theorem dX8_after_9 : decode cX8_after 9 = .ok (.iconst 2, 1) := by decide +kernel
theorem dX8_after_10 : decode cX8_after 10 = .ok (.idiv, 1) := by decide +kernel
theorem dX8_after_11 : decode cX8_after 11 = .ok (.goto 4, 3) := by decide +kernel
theorem dX8_after_14 : decode cX8_after 14 = .ok (.iload_n 2, 1) := by decide +kernel
theorem dX8_after_15 : decode cX8_after 15 = .ok (.istore_n 3, 1) := by decide +kernel
theorem dX8_after_16 : decode cX8_after 16 = .ok (.iload_n 0, 1) := by decide +kernel
theorem dX8_after_17 : decode cX8_after 17 = .ok (.iconst 2, 1) := by decide +kernel
theorem dX8_after_18 : decode cX8_after 18 = .ok (.invokestatic 149, 3) := by decide +kernel
theorem dX8_after_21 : decode cX8_after 21 = .ok (.ifCond .eq 7, 3) := by decide +kernel
theorem dX8_after_24 : decode cX8_after 24 = .ok (.iconst 0, 1) := by decide +kernel
theorem dX8_after_25 : decode cX8_after 25 = .ok (.goto 4, 3) := by decide +kernel
theorem dX8_after_28 : decode cX8_after 28 = .ok (.iconst 1, 1) := by decide +kernel
theorem dX8_after_29 : decode cX8_after 29 = .ok (.istore 4, 2) := by decide +kernel
theorem dX8_after_31 : decode cX8_after 31 = .ok (.iconst 0, 1) := by decide +kernel
theorem dX8_after_32 : decode cX8_after 32 = .ok (.iload_n 1, 1) := by decide +kernel
theorem dX8_after_33 : decode cX8_after 33 = .ok (.iload_n 3, 1) := by decide +kernel
theorem dX8_after_34 : decode cX8_after 34 = .ok (.iadd, 1) := by decide +kernel
theorem dX8_after_35 : decode cX8_after 35 = .ok (.iload 4, 2) := by decide +kernel
theorem dX8_after_37 : decode cX8_after 37 = .ok (.isub, 1) := by decide +kernel
theorem dX8_after_38 : decode cX8_after 38 = .ok (.invokestatic 423, 3) := by decide +kernel
theorem dX8_after_41 : decode cX8_after 41 = .ok (.istore 5, 2) := by decide +kernel
theorem dX8_after_43 : decode cX8_after 43 = .ok (.iload 5, 2) := by decide +kernel
theorem dX8_after_45 : decode cX8_after 45 = .ok (.bipush 22, 2) := by decide +kernel
theorem dX8_after_47 : decode cX8_after 47 = .ok (.if_icmp .lt 7, 3) := by decide +kernel
theorem dX8_after_50 : decode cX8_after 50 = .ok (.iconst (-1), 1) := by decide +kernel
theorem dX8_after_51 : decode cX8_after 51 = .ok (.goto 10, 3) := by decide +kernel
theorem dX8_after_54 : decode cX8_after 54 = .ok (.iload 5, 2) := by decide +kernel
theorem dX8_after_56 : decode cX8_after 56 = .ok (.bipush 20, 2) := by decide +kernel
theorem dX8_after_58 : decode cX8_after 58 = .ok (.invokestatic 420, 3) := by decide +kernel
theorem dX8_after_61 : decode cX8_after 61 = .ok (.ireturn, 1) := by decide +kernel
theorem dX8_tenths_0 : decode cX8_tenths 0 = .ok (.iload_n 3, 1) := by decide +kernel
theorem dX8_tenths_1 : decode cX8_tenths 1 = .ok (.iconst 5, 1) := by decide +kernel
theorem dX8_tenths_2 : decode cX8_tenths 2 = .ok (.if_icmp .ge 6, 3) := by decide +kernel
theorem dX8_tenths_5 : decode cX8_tenths 5 = .ok (.bipush (-9), 2) := by decide +kernel
theorem dX8_tenths_7 : decode cX8_tenths 7 = .ok (.ireturn, 1) := by decide +kernel
theorem dX8_tenths_8 : decode cX8_tenths 8 = .ok (.bipush 10, 2) := by decide +kernel
theorem dX8_tenths_10 : decode cX8_tenths 10 = .ok (.iload_n 3, 1) := by decide +kernel
theorem dX8_tenths_11 : decode cX8_tenths 11 = .ok (.iconst 2, 1) := by decide +kernel
theorem dX8_tenths_12 : decode cX8_tenths 12 = .ok (.idiv, 1) := by decide +kernel
theorem dX8_tenths_13 : decode cX8_tenths 13 = .ok (.iadd, 1) := by decide +kernel
theorem dX8_tenths_14 : decode cX8_tenths 14 = .ok (.iload_n 1, 1) := by decide +kernel
theorem dX8_tenths_15 : decode cX8_tenths 15 = .ok (.iconst 3, 1) := by decide +kernel
theorem dX8_tenths_16 : decode cX8_tenths 16 = .ok (.idiv, 1) := by decide +kernel
theorem dX8_tenths_17 : decode cX8_tenths 17 = .ok (.iadd, 1) := by decide +kernel
theorem dX8_tenths_18 : decode cX8_tenths 18 = .ok (.iload_n 2, 1) := by decide +kernel
theorem dX8_tenths_19 : decode cX8_tenths 19 = .ok (.isub, 1) := by decide +kernel
theorem dX8_tenths_20 : decode cX8_tenths 20 = .ok (.iload_n 0, 1) := by decide +kernel
theorem dX8_tenths_21 : decode cX8_tenths 21 = .ok (.invokestatic 426, 3) := by decide +kernel
theorem dX8_tenths_24 : decode cX8_tenths 24 = .ok (.iadd, 1) := by decide +kernel
theorem dX8_tenths_25 : decode cX8_tenths 25 = .ok (.ireturn, 1) := by decide +kernel
theorem dX8_lag_0 : decode cX8_lag 0 = .ok (.iload_n 0, 1) := by decide +kernel
theorem dX8_lag_1 : decode cX8_lag 1 = .ok (.tableswitch 33 3 5 #[27, 29, 31], 27) := by decide +kernel
theorem dX8_lag_28 : decode cX8_lag 28 = .ok (.iconst 1, 1) := by decide +kernel
theorem dX8_lag_29 : decode cX8_lag 29 = .ok (.ireturn, 1) := by decide +kernel
theorem dX8_lag_30 : decode cX8_lag 30 = .ok (.iconst 2, 1) := by decide +kernel
theorem dX8_lag_31 : decode cX8_lag 31 = .ok (.ireturn, 1) := by decide +kernel
theorem dX8_lag_32 : decode cX8_lag 32 = .ok (.iconst (-1), 1) := by decide +kernel
theorem dX8_lag_33 : decode cX8_lag 33 = .ok (.ireturn, 1) := by decide +kernel
theorem dX8_lag_34 : decode cX8_lag 34 = .ok (.iconst 0, 1) := by decide +kernel
theorem dX8_lag_35 : decode cX8_lag 35 = .ok (.ireturn, 1) := by decide +kernel
theorem dX9_init_0 : decode cX9_init 0 = .ok (.aload_n 0, 1) := by decide +kernel
theorem dX9_init_1 : decode cX9_init 1 = .ok (.invokespecial 1, 3) := by decide +kernel
theorem dX9_init_4 : decode cX9_init 4 = .ok (.aload_n 0, 1) := by decide +kernel
theorem dX9_init_5 : decode cX9_init 5 = .ok (.sipush 5280, 3) := by decide +kernel
theorem dX9_init_8 : decode cX9_init 8 = .ok (.newarray .int, 2) := by decide +kernel
theorem dX9_init_10 : decode cX9_init 10 = .ok (.putfield 7, 3) := by decide +kernel
theorem dX9_init_13 : decode cX9_init 13 = .ok (.aload_n 0, 1) := by decide +kernel
theorem dX9_init_14 : decode cX9_init 14 = .ok (.iconst 3, 1) := by decide +kernel
theorem dX9_init_15 : decode cX9_init 15 = .ok (.newarray .int, 2) := by decide +kernel
theorem dX9_init_17 : decode cX9_init 17 = .ok (.putfield 13, 3) := by decide +kernel
theorem dX9_init_20 : decode cX9_init 20 = .ok (.aload_n 0, 1) := by decide +kernel
theorem dX9_init_21 : decode cX9_init 21 = .ok (.sipush 240, 3) := by decide +kernel
theorem dX9_init_24 : decode cX9_init 24 = .ok (.newarray .int, 2) := by decide +kernel
theorem dX9_init_26 : decode cX9_init 26 = .ok (.putfield 16, 3) := by decide +kernel
theorem dX9_init_29 : decode cX9_init 29 = .ok (.aload_n 0, 1) := by decide +kernel
theorem dX9_init_30 : decode cX9_init 30 = .ok (.bipush 6, 2) := by decide +kernel
theorem dX9_init_32 : decode cX9_init 32 = .ok (.newarray .int, 2) := by decide +kernel
theorem dX9_init_34 : decode cX9_init 34 = .ok (.putfield 19, 3) := by decide +kernel
theorem dX9_init_37 : decode cX9_init 37 = .ok (.aload_n 0, 1) := by decide +kernel
theorem dX9_init_38 : decode cX9_init 38 = .ok (.sipush 240, 3) := by decide +kernel
theorem dX9_init_41 : decode cX9_init 41 = .ok (.newarray .int, 2) := by decide +kernel
theorem dX9_init_43 : decode cX9_init 43 = .ok (.putfield 22, 3) := by decide +kernel
theorem dX9_init_46 : decode cX9_init 46 = .ok (.aload_n 0, 1) := by decide +kernel
theorem dX9_init_47 : decode cX9_init 47 = .ok (.iconst 4, 1) := by decide +kernel
theorem dX9_init_48 : decode cX9_init 48 = .ok (.newarray .int, 2) := by decide +kernel
theorem dX9_init_50 : decode cX9_init 50 = .ok (.putfield 25, 3) := by decide +kernel
theorem dX9_init_53 : decode cX9_init 53 = .ok (.aload_n 0, 1) := by decide +kernel
theorem dX9_init_54 : decode cX9_init 54 = .ok (.bipush 40, 2) := by decide +kernel
theorem dX9_init_56 : decode cX9_init 56 = .ok (.newarray .int, 2) := by decide +kernel
theorem dX9_init_58 : decode cX9_init 58 = .ok (.putfield 28, 3) := by decide +kernel
theorem dX9_init_61 : decode cX9_init 61 = .ok (.aload_n 0, 1) := by decide +kernel
theorem dX9_init_62 : decode cX9_init 62 = .ok (.bipush 6, 2) := by decide +kernel
theorem dX9_init_64 : decode cX9_init 64 = .ok (.newarray .int, 2) := by decide +kernel
theorem dX9_init_66 : decode cX9_init 66 = .ok (.putfield 31, 3) := by decide +kernel
theorem dX9_init_69 : decode cX9_init 69 = .ok (.aload_n 0, 1) := by decide +kernel
theorem dX9_init_70 : decode cX9_init 70 = .ok (.lconst 1, 1) := by decide +kernel
theorem dX9_init_71 : decode cX9_init 71 = .ok (.putfield 34, 3) := by decide +kernel
theorem dX9_init_74 : decode cX9_init 74 = .ok (.aload_n 0, 1) := by decide +kernel
theorem dX9_init_75 : decode cX9_init 75 = .ok (.bipush 6, 2) := by decide +kernel
theorem dX9_init_77 : decode cX9_init 77 = .ok (.newarray .int, 2) := by decide +kernel
theorem dX9_init_79 : decode cX9_init 79 = .ok (.putfield 38, 3) := by decide +kernel
theorem dX9_init_82 : decode cX9_init 82 = .ok (.aload_n 0, 1) := by decide +kernel
theorem dX9_init_83 : decode cX9_init 83 = .ok (.bipush 6, 2) := by decide +kernel
theorem dX9_init_85 : decode cX9_init 85 = .ok (.newarray .int, 2) := by decide +kernel
theorem dX9_init_87 : decode cX9_init 87 = .ok (.putfield 41, 3) := by decide +kernel
theorem dX9_init_90 : decode cX9_init 90 = .ok (.aload_n 0, 1) := by decide +kernel
theorem dX9_init_91 : decode cX9_init 91 = .ok (.bipush 6, 2) := by decide +kernel
theorem dX9_init_93 : decode cX9_init 93 = .ok (.newarray .int, 2) := by decide +kernel
theorem dX9_init_95 : decode cX9_init 95 = .ok (.putfield 44, 3) := by decide +kernel
theorem dX9_init_98 : decode cX9_init 98 = .ok (.aload_n 0, 1) := by decide +kernel
theorem dX9_init_99 : decode cX9_init 99 = .ok (.sipush 651, 3) := by decide +kernel
theorem dX9_init_102 : decode cX9_init 102 = .ok (.newarray .boolean, 2) := by decide +kernel
theorem dX9_init_104 : decode cX9_init 104 = .ok (.putfield 47, 3) := by decide +kernel
theorem dX9_init_107 : decode cX9_init 107 = .ok (.aload_n 0, 1) := by decide +kernel
theorem dX9_init_108 : decode cX9_init 108 = .ok (.sipush 273, 3) := by decide +kernel
theorem dX9_init_111 : decode cX9_init 111 = .ok (.newarray .int, 2) := by decide +kernel
theorem dX9_init_113 : decode cX9_init 113 = .ok (.putfield 51, 3) := by decide +kernel
theorem dX9_init_116 : decode cX9_init 116 = .ok (.aload_n 0, 1) := by decide +kernel
theorem dX9_init_117 : decode cX9_init 117 = .ok (.sipush 273, 3) := by decide +kernel
theorem dX9_init_120 : decode cX9_init 120 = .ok (.newarray .long, 2) := by decide +kernel
theorem dX9_init_122 : decode cX9_init 122 = .ok (.putfield 54, 3) := by decide +kernel
theorem dX9_init_125 : decode cX9_init 125 = .ok (.aload_n 0, 1) := by decide +kernel
theorem dX9_init_126 : decode cX9_init 126 = .ok (.bipush 6, 2) := by decide +kernel
theorem dX9_init_128 : decode cX9_init 128 = .ok (.newarray .int, 2) := by decide +kernel
theorem dX9_init_130 : decode cX9_init 130 = .ok (.putfield 58, 3) := by decide +kernel
theorem dX9_init_133 : decode cX9_init 133 = .ok (.aload_n 0, 1) := by decide +kernel
theorem dX9_init_134 : decode cX9_init 134 = .ok (.ldc 61, 2) := by decide +kernel
theorem dX9_init_136 : decode cX9_init 136 = .ok (.newarray .boolean, 2) := by decide +kernel
theorem dX9_init_138 : decode cX9_init 138 = .ok (.putfield 62, 3) := by decide +kernel
theorem dX9_init_141 : decode cX9_init 141 = .ok (.aload_n 0, 1) := by decide +kernel
theorem dX9_init_142 : decode cX9_init 142 = .ok (.sipush 147, 3) := by decide +kernel
theorem dX9_init_145 : decode cX9_init 145 = .ok (.newarray .boolean, 2) := by decide +kernel
theorem dX9_init_147 : decode cX9_init 147 = .ok (.putfield 65, 3) := by decide +kernel
theorem dX9_init_150 : decode cX9_init 150 = .ok (.aload_n 0, 1) := by decide +kernel
theorem dX9_init_151 : decode cX9_init 151 = .ok (.bipush 21, 2) := by decide +kernel
theorem dX9_init_153 : decode cX9_init 153 = .ok (.newarray .long, 2) := by decide +kernel
theorem dX9_init_155 : decode cX9_init 155 = .ok (.putfield 68, 3) := by decide +kernel
theorem dX9_init_158 : decode cX9_init 158 = .ok (.aload_n 0, 1) := by decide +kernel
theorem dX9_init_159 : decode cX9_init 159 = .ok (.bipush 21, 2) := by decide +kernel
theorem dX9_init_161 : decode cX9_init 161 = .ok (.newarray .long, 2) := by decide +kernel
theorem dX9_init_163 : decode cX9_init 163 = .ok (.putfield 71, 3) := by decide +kernel
theorem dX9_init_166 : decode cX9_init 166 = .ok (.iconst 0, 1) := by decide +kernel
theorem dX9_init_167 : decode cX9_init 167 = .ok (.istore_n 1, 1) := by decide +kernel
theorem dX9_init_168 : decode cX9_init 168 = .ok (.iload_n 1, 1) := by decide +kernel
theorem dX9_init_169 : decode cX9_init 169 = .ok (.bipush 6, 2) := by decide +kernel
theorem dX9_init_171 : decode cX9_init 171 = .ok (.if_icmp .ge 16, 3) := by decide +kernel
theorem dX9_init_174 : decode cX9_init 174 = .ok (.aload_n 0, 1) := by decide +kernel
theorem dX9_init_175 : decode cX9_init 175 = .ok (.getfield 19, 3) := by decide +kernel
theorem dX9_init_178 : decode cX9_init 178 = .ok (.iload_n 1, 1) := by decide +kernel
theorem dX9_init_179 : decode cX9_init 179 = .ok (.iconst (-1), 1) := by decide +kernel
theorem dX9_init_180 : decode cX9_init 180 = .ok (.iastore, 1) := by decide +kernel
theorem dX9_init_181 : decode cX9_init 181 = .ok (.iinc 1 1, 3) := by decide +kernel
theorem dX9_init_184 : decode cX9_init 184 = .ok (.goto (-16), 3) := by decide +kernel
theorem dX9_init_187 : decode cX9_init 187 = .ok (.iconst 0, 1) := by decide +kernel
theorem dX9_init_188 : decode cX9_init 188 = .ok (.istore_n 1, 1) := by decide +kernel
theorem dX9_init_189 : decode cX9_init 189 = .ok (.iload_n 1, 1) := by decide +kernel
theorem dX9_init_190 : decode cX9_init 190 = .ok (.iconst 4, 1) := by decide +kernel
theorem dX9_init_191 : decode cX9_init 191 = .ok (.if_icmp .ge 16, 3) := by decide +kernel
theorem dX9_init_194 : decode cX9_init 194 = .ok (.aload_n 0, 1) := by decide +kernel
theorem dX9_init_195 : decode cX9_init 195 = .ok (.getfield 25, 3) := by decide +kernel
theorem dX9_init_198 : decode cX9_init 198 = .ok (.iload_n 1, 1) := by decide +kernel
theorem dX9_init_199 : decode cX9_init 199 = .ok (.iconst (-1), 1) := by decide +kernel
theorem dX9_init_200 : decode cX9_init 200 = .ok (.iastore, 1) := by decide +kernel
theorem dX9_init_201 : decode cX9_init 201 = .ok (.iinc 1 1, 3) := by decide +kernel
theorem dX9_init_204 : decode cX9_init 204 = .ok (.goto (-15), 3) := by decide +kernel
theorem dX9_init_207 : decode cX9_init 207 = .ok (.iconst 0, 1) := by decide +kernel
theorem dX9_init_208 : decode cX9_init 208 = .ok (.istore_n 1, 1) := by decide +kernel
theorem dX9_init_209 : decode cX9_init 209 = .ok (.iload_n 1, 1) := by decide +kernel
theorem dX9_init_210 : decode cX9_init 210 = .ok (.iconst 3, 1) := by decide +kernel
theorem dX9_init_211 : decode cX9_init 211 = .ok (.if_icmp .ge 16, 3) := by decide +kernel
theorem dX9_init_214 : decode cX9_init 214 = .ok (.aload_n 0, 1) := by decide +kernel
theorem dX9_init_215 : decode cX9_init 215 = .ok (.getfield 13, 3) := by decide +kernel
theorem dX9_init_218 : decode cX9_init 218 = .ok (.iload_n 1, 1) := by decide +kernel
theorem dX9_init_219 : decode cX9_init 219 = .ok (.iconst (-1), 1) := by decide +kernel
theorem dX9_init_220 : decode cX9_init 220 = .ok (.iastore, 1) := by decide +kernel
theorem dX9_init_221 : decode cX9_init 221 = .ok (.iinc 1 1, 3) := by decide +kernel
theorem dX9_init_224 : decode cX9_init 224 = .ok (.goto (-15), 3) := by decide +kernel
theorem dX9_init_227 : decode cX9_init 227 = .ok (.return_, 1) := by decide +kernel
theorem dX9_in_0 : decode cX9_in 0 = .ok (.lload_n 0, 1) := by decide +kernel
theorem dX9_in_1 : decode cX9_in 1 = .ok (.lload_n 2, 1) := by decide +kernel
theorem dX9_in_2 : decode cX9_in 2 = .ok (.lcmp, 1) := by decide +kernel
theorem dX9_in_3 : decode cX9_in 3 = .ok (.ifCond .lt 14, 3) := by decide +kernel
theorem dX9_in_6 : decode cX9_in 6 = .ok (.lload_n 0, 1) := by decide +kernel
theorem dX9_in_7 : decode cX9_in 7 = .ok (.lload 4, 2) := by decide +kernel
theorem dX9_in_9 : decode cX9_in 9 = .ok (.lcmp, 1) := by decide +kernel
theorem dX9_in_10 : decode cX9_in 10 = .ok (.ifCond .gt 7, 3) := by decide +kernel
theorem dX9_in_13 : decode cX9_in 13 = .ok (.iconst 1, 1) := by decide +kernel
theorem dX9_in_14 : decode cX9_in 14 = .ok (.goto 4, 3) := by decide +kernel
theorem dX9_in_17 : decode cX9_in 17 = .ok (.iconst 0, 1) := by decide +kernel
theorem dX9_in_18 : decode cX9_in 18 = .ok (.ireturn, 1) := by decide +kernel
theorem dX9_has_0 : decode cX9_has 0 = .ok (.iload_n 0, 1) := by decide +kernel
theorem dX9_has_1 : decode cX9_has 1 = .ok (.iload_n 1, 1) := by decide +kernel
theorem dX9_has_2 : decode cX9_has 2 = .ok (.ishr, 1) := by decide +kernel
theorem dX9_has_3 : decode cX9_has 3 = .ok (.iconst 1, 1) := by decide +kernel
theorem dX9_has_4 : decode cX9_has 4 = .ok (.iand, 1) := by decide +kernel
theorem dX9_has_5 : decode cX9_has 5 = .ok (.iconst 1, 1) := by decide +kernel
theorem dX9_has_6 : decode cX9_has 6 = .ok (.if_icmp .ne 7, 3) := by decide +kernel
theorem dX9_has_9 : decode cX9_has 9 = .ok (.iconst 1, 1) := by decide +kernel
theorem dX9_has_10 : decode cX9_has 10 = .ok (.goto 4, 3) := by decide +kernel
theorem dX9_has_13 : decode cX9_has 13 = .ok (.iconst 0, 1) := by decide +kernel
theorem dX9_has_14 : decode cX9_has 14 = .ok (.ireturn, 1) := by decide +kernel
theorem dX9_found_0 : decode cX9_found 0 = .ok (.aload_n 0, 1) := by decide +kernel
theorem dX9_found_1 : decode cX9_found 1 = .ok (.iload_n 1, 1) := by decide +kernel
theorem dX9_found_2 : decode cX9_found 2 = .ok (.putfield 74, 3) := by decide +kernel
theorem dX9_found_5 : decode cX9_found 5 = .ok (.aload_n 0, 1) := by decide +kernel
theorem dX9_found_6 : decode cX9_found 6 = .ok (.getfield 31, 3) := by decide +kernel
theorem dX9_found_9 : decode cX9_found 9 = .ok (.iload_n 1, 1) := by decide +kernel
theorem dX9_found_10 : decode cX9_found 10 = .ok (.dup2, 1) := by decide +kernel
theorem dX9_found_11 : decode cX9_found 11 = .ok (.iaload, 1) := by decide +kernel
theorem dX9_found_12 : decode cX9_found 12 = .ok (.iconst 1, 1) := by decide +kernel
theorem dX9_found_13 : decode cX9_found 13 = .ok (.iadd, 1) := by decide +kernel
theorem dX9_found_14 : decode cX9_found 14 = .ok (.iastore, 1) := by decide +kernel
theorem dX9_found_15 : decode cX9_found 15 = .ok (.bipush (-3), 2) := by decide +kernel
theorem dX9_found_17 : decode cX9_found 17 = .ok (.ireturn, 1) := by decide +kernel
theorem dX9_tells_0 : decode cX9_tells 0 = .ok (.aload_n 0, 1) := by decide +kernel
theorem dX9_tells_1 : decode cX9_tells 1 = .ok (.iload_n 1, 1) := by decide +kernel
theorem dX9_tells_2 : decode cX9_tells 2 = .ok (.putfield 78, 3) := by decide +kernel
theorem dX9_tells_5 : decode cX9_tells 5 = .ok (.iload_n 2, 1) := by decide +kernel
theorem dX9_tells_6 : decode cX9_tells 6 = .ok (.ireturn, 1) := by decide +kernel
theorem dX9_copyAll_0 : decode cX9_copyAll 0 = .ok (.iconst 0, 1) := by decide +kernel
theorem dX9_copyAll_1 : decode cX9_copyAll 1 = .ok (.istore 4, 2) := by decide +kernel
theorem dX9_copyAll_3 : decode cX9_copyAll 3 = .ok (.iload 4, 2) := by decide +kernel
theorem dX9_copyAll_5 : decode cX9_copyAll 5 = .ok (.iload_n 3, 1) := by decide +kernel
theorem dX9_copyAll_6 : decode cX9_copyAll 6 = .ok (.if_icmp .ge 27, 3) := by decide +kernel
theorem dX9_copyAll_9 : decode cX9_copyAll 9 = .ok (.aload_n 0, 1) := by decide +kernel
theorem dX9_copyAll_10 : decode cX9_copyAll 10 = .ok (.getfield 7, 3) := by decide +kernel
theorem dX9_copyAll_13 : decode cX9_copyAll 13 = .ok (.iload_n 2, 1) := by decide +kernel
theorem dX9_copyAll_14 : decode cX9_copyAll 14 = .ok (.iload 4, 2) := by decide +kernel
theorem dX9_copyAll_16 : decode cX9_copyAll 16 = .ok (.iadd, 1) := by decide +kernel
theorem dX9_copyAll_17 : decode cX9_copyAll 17 = .ok (.aload_n 0, 1) := by decide +kernel
theorem dX9_copyAll_18 : decode cX9_copyAll 18 = .ok (.getfield 7, 3) := by decide +kernel
theorem dX9_copyAll_21 : decode cX9_copyAll 21 = .ok (.iload_n 1, 1) := by decide +kernel
theorem dX9_copyAll_22 : decode cX9_copyAll 22 = .ok (.iload 4, 2) := by decide +kernel
theorem dX9_copyAll_24 : decode cX9_copyAll 24 = .ok (.iadd, 1) := by decide +kernel
theorem dX9_copyAll_25 : decode cX9_copyAll 25 = .ok (.iaload, 1) := by decide +kernel
theorem dX9_copyAll_26 : decode cX9_copyAll 26 = .ok (.iastore, 1) := by decide +kernel
theorem dX9_copyAll_27 : decode cX9_copyAll 27 = .ok (.iinc 4 1, 3) := by decide +kernel
theorem dX9_copyAll_30 : decode cX9_copyAll 30 = .ok (.goto (-27), 3) := by decide +kernel
theorem dX9_copyAll_33 : decode cX9_copyAll 33 = .ok (.return_, 1) := by decide +kernel
theorem dX9_isRow_0 : decode cX9_isRow 0 = .ok (.iload_n 0, 1) := by decide +kernel
theorem dX9_isRow_1 : decode cX9_isRow 1 = .ok (.i2l, 1) := by decide +kernel
theorem dX9_isRow_2 : decode cX9_isRow 2 = .ok (.lconst 0, 1) := by decide +kernel
theorem dX9_isRow_3 : decode cX9_isRow 3 = .ok (.ldc2_w 81, 3) := by decide +kernel
theorem dX9_isRow_6 : decode cX9_isRow 6 = .ok (.invokestatic 83, 3) := by decide +kernel
theorem dX9_isRow_9 : decode cX9_isRow 9 = .ok (.ireturn, 1) := by decide +kernel
theorem dX9_isText_0 : decode cX9_isText 0 = .ok (.iload_n 0, 1) := by decide +kernel
theorem dX9_isText_1 : decode cX9_isText 1 = .ok (.i2l, 1) := by decide +kernel
theorem dX9_isText_2 : decode cX9_isText 2 = .ok (.lconst 0, 1) := by decide +kernel
theorem dX9_isText_3 : decode cX9_isText 3 = .ok (.ldc2_w 87, 3) := by decide +kernel
theorem dX9_isText_6 : decode cX9_isText 6 = .ok (.invokestatic 83, 3) := by decide +kernel
theorem dX9_isText_9 : decode cX9_isText 9 = .ok (.ireturn, 1) := by decide +kernel
theorem dX9_anew_0 : decode cX9_anew 0 = .ok (.aload_n 0, 1) := by decide +kernel
theorem dX9_anew_1 : decode cX9_anew 1 = .ok (.getfield 19, 3) := by decide +kernel
theorem dX9_anew_4 : decode cX9_anew 4 = .ok (.iload_n 1, 1) := by decide +kernel
theorem dX9_anew_5 : decode cX9_anew 5 = .ok (.iload_n 2, 1) := by decide +kernel
theorem dX9_anew_6 : decode cX9_anew 6 = .ok (.iastore, 1) := by decide +kernel
theorem dX9_anew_7 : decode cX9_anew 7 = .ok (.iconst 0, 1) := by decide +kernel
theorem dX9_anew_8 : decode cX9_anew 8 = .ok (.istore_n 3, 1) := by decide +kernel
theorem dX9_anew_9 : decode cX9_anew 9 = .ok (.iload_n 3, 1) := by decide +kernel
theorem dX9_anew_10 : decode cX9_anew 10 = .ok (.bipush 40, 2) := by decide +kernel
theorem dX9_anew_12 : decode cX9_anew 12 = .ok (.if_icmp .ge 21, 3) := by decide +kernel
theorem dX9_anew_15 : decode cX9_anew 15 = .ok (.aload_n 0, 1) := by decide +kernel
theorem dX9_anew_16 : decode cX9_anew 16 = .ok (.getfield 16, 3) := by decide +kernel
theorem dX9_anew_19 : decode cX9_anew 19 = .ok (.bipush 40, 2) := by decide +kernel
theorem dX9_anew_21 : decode cX9_anew 21 = .ok (.iload_n 1, 1) := by decide +kernel
theorem dX9_anew_22 : decode cX9_anew 22 = .ok (.imul, 1) := by decide +kernel
theorem dX9_anew_23 : decode cX9_anew 23 = .ok (.iload_n 3, 1) := by decide +kernel
theorem dX9_anew_24 : decode cX9_anew 24 = .ok (.iadd, 1) := by decide +kernel
theorem dX9_anew_25 : decode cX9_anew 25 = .ok (.iconst 0, 1) := by decide +kernel
theorem dX9_anew_26 : decode cX9_anew 26 = .ok (.iastore, 1) := by decide +kernel
theorem dX9_anew_27 : decode cX9_anew 27 = .ok (.iinc 3 1, 3) := by decide +kernel
theorem dX9_anew_30 : decode cX9_anew 30 = .ok (.goto (-21), 3) := by decide +kernel
theorem dX9_anew_33 : decode cX9_anew 33 = .ok (.return_, 1) := by decide +kernel
theorem dX9_row_0 : decode cX9_row 0 = .ok (.iload_n 1, 1) := by decide +kernel
theorem dX9_row_1 : decode cX9_row 1 = .ok (.invokestatic 89, 3) := by decide +kernel
theorem dX9_row_4 : decode cX9_row 4 = .ok (.ifCond .eq 9, 3) := by decide +kernel
theorem dX9_row_7 : decode cX9_row 7 = .ok (.iload_n 2, 1) := by decide +kernel
theorem dX9_row_8 : decode cX9_row 8 = .ok (.bipush 40, 2) := by decide +kernel
theorem dX9_row_10 : decode cX9_row 10 = .ok (.if_icmp .le 5, 3) := by decide +kernel
theorem dX9_row_13 : decode cX9_row 13 = .ok (.iconst (-1), 1) := by decide +kernel
theorem dX9_row_14 : decode cX9_row 14 = .ok (.ireturn, 1) := by decide +kernel
theorem dX9_row_15 : decode cX9_row 15 = .ok (.iload_n 2, 1) := by decide +kernel
theorem dX9_row_16 : decode cX9_row 16 = .ok (.ifCond .ge 9, 3) := by decide +kernel
theorem dX9_row_19 : decode cX9_row 19 = .ok (.aload_n 0, 1) := by decide +kernel
theorem dX9_row_20 : decode cX9_row 20 = .ok (.iconst 5, 1) := by decide +kernel
theorem dX9_row_21 : decode cX9_row 21 = .ok (.invokevirtual 93, 3) := by decide +kernel
theorem dX9_row_24 : decode cX9_row 24 = .ok (.ireturn, 1) := by decide +kernel
theorem dX9_row_25 : decode cX9_row 25 = .ok (.aload_n 0, 1) := by decide +kernel
theorem dX9_row_26 : decode cX9_row 26 = .ok (.iload_n 1, 1) := by decide +kernel
theorem dX9_row_27 : decode cX9_row 27 = .ok (.iload_n 2, 1) := by decide +kernel
theorem dX9_row_28 : decode cX9_row 28 = .ok (.invokevirtual 97, 3) := by decide +kernel
theorem dX9_row_31 : decode cX9_row 31 = .ok (.iload_n 2, 1) := by decide +kernel
theorem dX9_row_32 : decode cX9_row 32 = .ok (.ireturn, 1) := by decide +kernel
theorem dX9_lay_0 : decode cX9_lay 0 = .ok (.aload_n 0, 1) := by decide +kernel
theorem dX9_lay_1 : decode cX9_lay 1 = .ok (.iload_n 1, 1) := by decide +kernel
theorem dX9_lay_2 : decode cX9_lay 2 = .ok (.iload_n 2, 1) := by decide +kernel
theorem dX9_lay_3 : decode cX9_lay 3 = .ok (.invokevirtual 101, 3) := by decide +kernel
theorem dX9_lay_6 : decode cX9_lay 6 = .ok (.istore 4, 2) := by decide +kernel
theorem dX9_lay_8 : decode cX9_lay 8 = .ok (.iload 4, 2) := by decide +kernel
theorem dX9_lay_10 : decode cX9_lay 10 = .ok (.iconst 1, 1) := by decide +kernel
theorem dX9_lay_11 : decode cX9_lay 11 = .ok (.if_icmp .ne 15, 3) := by decide +kernel
theorem dX9_lay_14 : decode cX9_lay 14 = .ok (.aload_n 0, 1) := by decide +kernel
theorem dX9_lay_15 : decode cX9_lay 15 = .ok (.getfield 16, 3) := by decide +kernel
theorem dX9_lay_18 : decode cX9_lay 18 = .ok (.bipush 40, 2) := by decide +kernel
theorem dX9_lay_20 : decode cX9_lay 20 = .ok (.iload_n 1, 1) := by decide +kernel
theorem dX9_lay_21 : decode cX9_lay 21 = .ok (.imul, 1) := by decide +kernel
theorem dX9_lay_22 : decode cX9_lay 22 = .ok (.iload_n 2, 1) := by decide +kernel
theorem dX9_lay_23 : decode cX9_lay 23 = .ok (.iadd, 1) := by decide +kernel
theorem dX9_lay_24 : decode cX9_lay 24 = .ok (.iload_n 3, 1) := by decide +kernel
theorem dX9_lay_25 : decode cX9_lay 25 = .ok (.iastore, 1) := by decide +kernel
theorem dX9_lay_26 : decode cX9_lay 26 = .ok (.iload 4, 2) := by decide +kernel
theorem dX9_lay_28 : decode cX9_lay 28 = .ok (.ireturn, 1) := by decide +kernel
theorem dX9_at_0 : decode cX9_at 0 = .ok (.iload_n 1, 1) := by decide +kernel
theorem dX9_at_1 : decode cX9_at 1 = .ok (.invokestatic 89, 3) := by decide +kernel
theorem dX9_at_4 : decode cX9_at 4 = .ok (.ifCond .ne 5, 3) := by decide +kernel
theorem dX9_at_7 : decode cX9_at 7 = .ok (.iconst (-1), 1) := by decide +kernel
theorem dX9_at_8 : decode cX9_at 8 = .ok (.ireturn, 1) := by decide +kernel
theorem dX9_at_9 : decode cX9_at 9 = .ok (.aload_n 0, 1) := by decide +kernel
theorem dX9_at_10 : decode cX9_at 10 = .ok (.getfield 19, 3) := by decide +kernel
theorem dX9_at_13 : decode cX9_at 13 = .ok (.iload_n 1, 1) := by decide +kernel
theorem dX9_at_14 : decode cX9_at 14 = .ok (.iaload, 1) := by decide +kernel
theorem dX9_at_15 : decode cX9_at 15 = .ok (.ifCond .ge 9, 3) := by decide +kernel
theorem dX9_at_18 : decode cX9_at 18 = .ok (.aload_n 0, 1) := by decide +kernel
theorem dX9_at_19 : decode cX9_at 19 = .ok (.iconst 1, 1) := by decide +kernel
theorem dX9_at_20 : decode cX9_at 20 = .ok (.invokevirtual 93, 3) := by decide +kernel
theorem dX9_at_23 : decode cX9_at 23 = .ok (.ireturn, 1) := by decide +kernel
theorem dX9_at_24 : decode cX9_at 24 = .ok (.iload_n 2, 1) := by decide +kernel
theorem dX9_at_25 : decode cX9_at 25 = .ok (.i2l, 1) := by decide +kernel
theorem dX9_at_26 : decode cX9_at 26 = .ok (.lconst 0, 1) := by decide +kernel
theorem dX9_at_27 : decode cX9_at 27 = .ok (.aload_n 0, 1) := by decide +kernel
theorem dX9_at_28 : decode cX9_at 28 = .ok (.getfield 19, 3) := by decide +kernel
theorem dX9_at_31 : decode cX9_at 31 = .ok (.iload_n 1, 1) := by decide +kernel
theorem dX9_at_32 : decode cX9_at 32 = .ok (.iaload, 1) := by decide +kernel
theorem dX9_at_33 : decode cX9_at 33 = .ok (.iconst 1, 1) := by decide +kernel
theorem dX9_at_34 : decode cX9_at 34 = .ok (.isub, 1) := by decide +kernel
theorem dX9_at_35 : decode cX9_at 35 = .ok (.i2l, 1) := by decide +kernel
theorem dX9_at_36 : decode cX9_at 36 = .ok (.invokestatic 83, 3) := by decide +kernel
theorem dX9_at_39 : decode cX9_at 39 = .ok (.ifCond .eq 22, 3) := by decide +kernel
theorem dX9_at_42 : decode cX9_at 42 = .ok (.aload_n 0, 1) := by decide +kernel
theorem dX9_at_43 : decode cX9_at 43 = .ok (.aload_n 0, 1) := by decide +kernel
theorem dX9_at_44 : decode cX9_at 44 = .ok (.getfield 16, 3) := by decide +kernel
theorem dX9_at_47 : decode cX9_at 47 = .ok (.bipush 40, 2) := by decide +kernel
theorem dX9_at_49 : decode cX9_at 49 = .ok (.iload_n 1, 1) := by decide +kernel
theorem dX9_at_50 : decode cX9_at 50 = .ok (.imul, 1) := by decide +kernel
theorem dX9_at_51 : decode cX9_at 51 = .ok (.iload_n 2, 1) := by decide +kernel
theorem dX9_at_52 : decode cX9_at 52 = .ok (.iadd, 1) := by decide +kernel
theorem dX9_at_53 : decode cX9_at 53 = .ok (.iaload, 1) := by decide +kernel
theorem dX9_at_54 : decode cX9_at 54 = .ok (.iconst 1, 1) := by decide +kernel
theorem dX9_at_55 : decode cX9_at 55 = .ok (.invokevirtual 105, 3) := by decide +kernel
theorem dX9_at_58 : decode cX9_at 58 = .ok (.goto 8, 3) := by decide +kernel
theorem dX9_at_61 : decode cX9_at 61 = .ok (.aload_n 0, 1) := by decide +kernel
theorem dX9_at_62 : decode cX9_at 62 = .ok (.iconst 2, 1) := by decide +kernel
theorem dX9_at_63 : decode cX9_at 63 = .ok (.invokevirtual 93, 3) := by decide +kernel
theorem dX9_at_66 : decode cX9_at 66 = .ok (.ireturn, 1) := by decide +kernel
theorem dX9_tear_0 : decode cX9_tear 0 = .ok (.iload_n 1, 1) := by decide +kernel
theorem dX9_tear_1 : decode cX9_tear 1 = .ok (.invokestatic 89, 3) := by decide +kernel
theorem dX9_tear_4 : decode cX9_tear 4 = .ok (.ifCond .ne 5, 3) := by decide +kernel
theorem dX9_tear_7 : decode cX9_tear 7 = .ok (.iconst (-1), 1) := by decide +kernel
theorem dX9_tear_8 : decode cX9_tear 8 = .ok (.ireturn, 1) := by decide +kernel
theorem dX9_tear_9 : decode cX9_tear 9 = .ok (.aload_n 0, 1) := by decide +kernel
theorem dX9_tear_10 : decode cX9_tear 10 = .ok (.getfield 19, 3) := by decide +kernel
theorem dX9_tear_13 : decode cX9_tear 13 = .ok (.iload_n 1, 1) := by decide +kernel
theorem dX9_tear_14 : decode cX9_tear 14 = .ok (.iaload, 1) := by decide +kernel
theorem dX9_tear_15 : decode cX9_tear 15 = .ok (.ifCond .ge 9, 3) := by decide +kernel
theorem dX9_tear_18 : decode cX9_tear 18 = .ok (.aload_n 0, 1) := by decide +kernel
theorem dX9_tear_19 : decode cX9_tear 19 = .ok (.iconst 1, 1) := by decide +kernel
theorem dX9_tear_20 : decode cX9_tear 20 = .ok (.invokevirtual 93, 3) := by decide +kernel
theorem dX9_tear_23 : decode cX9_tear 23 = .ok (.ireturn, 1) := by decide +kernel
theorem dX9_tear_24 : decode cX9_tear 24 = .ok (.aload_n 0, 1) := by decide +kernel
theorem dX9_tear_25 : decode cX9_tear 25 = .ok (.getfield 19, 3) := by decide +kernel
theorem dX9_tear_28 : decode cX9_tear 28 = .ok (.iload_n 1, 1) := by decide +kernel
theorem dX9_tear_29 : decode cX9_tear 29 = .ok (.iconst (-1), 1) := by decide +kernel
theorem dX9_tear_30 : decode cX9_tear 30 = .ok (.iastore, 1) := by decide +kernel
theorem dX9_tear_31 : decode cX9_tear 31 = .ok (.iconst 1, 1) := by decide +kernel
theorem dX9_tear_32 : decode cX9_tear 32 = .ok (.ireturn, 1) := by decide +kernel
theorem dX9_fits_0 : decode cX9_fits 0 = .ok (.iload_n 0, 1) := by decide +kernel
theorem dX9_fits_1 : decode cX9_fits 1 = .ok (.ifCond .lt 18, 3) := by decide +kernel
theorem dX9_fits_4 : decode cX9_fits 4 = .ok (.iload_n 0, 1) := by decide +kernel
theorem dX9_fits_5 : decode cX9_fits 5 = .ok (.i2l, 1) := by decide +kernel
theorem dX9_fits_6 : decode cX9_fits 6 = .ok (.iload_n 1, 1) := by decide +kernel
theorem dX9_fits_7 : decode cX9_fits 7 = .ok (.i2l, 1) := by decide +kernel
theorem dX9_fits_8 : decode cX9_fits 8 = .ok (.ladd, 1) := by decide +kernel
theorem dX9_fits_9 : decode cX9_fits 9 = .ok (.iload_n 2, 1) := by decide +kernel
theorem dX9_fits_10 : decode cX9_fits 10 = .ok (.i2l, 1) := by decide +kernel
theorem dX9_fits_11 : decode cX9_fits 11 = .ok (.lcmp, 1) := by decide +kernel
theorem dX9_fits_12 : decode cX9_fits 12 = .ok (.ifCond .gt 7, 3) := by decide +kernel
theorem dX9_fits_15 : decode cX9_fits 15 = .ok (.iconst 1, 1) := by decide +kernel
theorem dX9_fits_16 : decode cX9_fits 16 = .ok (.goto 4, 3) := by decide +kernel
theorem dX9_fits_19 : decode cX9_fits 19 = .ok (.iconst 0, 1) := by decide +kernel
theorem dX9_fits_20 : decode cX9_fits 20 = .ok (.ireturn, 1) := by decide +kernel
theorem dX9_copy_0 : decode cX9_copy 0 = .ok (.iload_n 1, 1) := by decide +kernel
theorem dX9_copy_1 : decode cX9_copy 1 = .ok (.invokestatic 89, 3) := by decide +kernel
theorem dX9_copy_4 : decode cX9_copy 4 = .ok (.ifCond .eq 10, 3) := by decide +kernel
theorem dX9_copy_7 : decode cX9_copy 7 = .ok (.iload_n 3, 1) := by decide +kernel
theorem dX9_copy_8 : decode cX9_copy 8 = .ok (.invokestatic 89, 3) := by decide +kernel
theorem dX9_copy_11 : decode cX9_copy 11 = .ok (.ifCond .ne 5, 3) := by decide +kernel
theorem dX9_copy_14 : decode cX9_copy 14 = .ok (.iconst (-1), 1) := by decide +kernel
theorem dX9_copy_15 : decode cX9_copy 15 = .ok (.ireturn, 1) := by decide +kernel
theorem dX9_copy_16 : decode cX9_copy 16 = .ok (.iload 5, 2) := by decide +kernel
theorem dX9_copy_18 : decode cX9_copy 18 = .ok (.ifCond .ge 9, 3) := by decide +kernel
theorem dX9_copy_21 : decode cX9_copy 21 = .ok (.aload_n 0, 1) := by decide +kernel
theorem dX9_copy_22 : decode cX9_copy 22 = .ok (.iconst 5, 1) := by decide +kernel
theorem dX9_copy_23 : decode cX9_copy 23 = .ok (.invokevirtual 93, 3) := by decide +kernel
theorem dX9_copy_26 : decode cX9_copy 26 = .ok (.ireturn, 1) := by decide +kernel
theorem dX9_copy_27 : decode cX9_copy 27 = .ok (.aload_n 0, 1) := by decide +kernel
theorem dX9_copy_28 : decode cX9_copy 28 = .ok (.getfield 19, 3) := by decide +kernel
theorem dX9_copy_31 : decode cX9_copy 31 = .ok (.iload_n 1, 1) := by decide +kernel
theorem dX9_copy_32 : decode cX9_copy 32 = .ok (.iaload, 1) := by decide +kernel
theorem dX9_copy_33 : decode cX9_copy 33 = .ok (.ifCond .lt 12, 3) := by decide +kernel
theorem dX9_copy_36 : decode cX9_copy 36 = .ok (.aload_n 0, 1) := by decide +kernel
theorem dX9_copy_37 : decode cX9_copy 37 = .ok (.getfield 19, 3) := by decide +kernel
theorem dX9_copy_40 : decode cX9_copy 40 = .ok (.iload_n 3, 1) := by decide +kernel
theorem dX9_copy_41 : decode cX9_copy 41 = .ok (.iaload, 1) := by decide +kernel
theorem dX9_copy_42 : decode cX9_copy 42 = .ok (.ifCond .ge 9, 3) := by decide +kernel
theorem dX9_copy_45 : decode cX9_copy 45 = .ok (.aload_n 0, 1) := by decide +kernel
theorem dX9_copy_46 : decode cX9_copy 46 = .ok (.iconst 1, 1) := by decide +kernel
theorem dX9_copy_47 : decode cX9_copy 47 = .ok (.invokevirtual 93, 3) := by decide +kernel
theorem dX9_copy_50 : decode cX9_copy 50 = .ok (.ireturn, 1) := by decide +kernel
theorem dX9_copy_51 : decode cX9_copy 51 = .ok (.iload_n 2, 1) := by decide +kernel
theorem dX9_copy_52 : decode cX9_copy 52 = .ok (.iload 5, 2) := by decide +kernel
theorem dX9_copy_54 : decode cX9_copy 54 = .ok (.aload_n 0, 1) := by decide +kernel
theorem dX9_copy_55 : decode cX9_copy 55 = .ok (.getfield 19, 3) := by decide +kernel
theorem dX9_copy_58 : decode cX9_copy 58 = .ok (.iload_n 1, 1) := by decide +kernel
theorem dX9_copy_59 : decode cX9_copy 59 = .ok (.iaload, 1) := by decide +kernel
theorem dX9_copy_60 : decode cX9_copy 60 = .ok (.invokestatic 108, 3) := by decide +kernel
theorem dX9_copy_63 : decode cX9_copy 63 = .ok (.ifCond .eq 19, 3) := by decide +kernel
theorem dX9_copy_66 : decode cX9_copy 66 = .ok (.iload 4, 2) := by decide +kernel
theorem dX9_copy_68 : decode cX9_copy 68 = .ok (.iload 5, 2) := by decide +kernel
theorem dX9_copy_70 : decode cX9_copy 70 = .ok (.aload_n 0, 1) := by decide +kernel
theorem dX9_copy_71 : decode cX9_copy 71 = .ok (.getfield 19, 3) := by decide +kernel
theorem dX9_copy_74 : decode cX9_copy 74 = .ok (.iload_n 3, 1) := by decide +kernel
theorem dX9_copy_75 : decode cX9_copy 75 = .ok (.iaload, 1) := by decide +kernel
theorem dX9_copy_76 : decode cX9_copy 76 = .ok (.invokestatic 108, 3) := by decide +kernel
theorem dX9_copy_79 : decode cX9_copy 79 = .ok (.ifCond .ne 9, 3) := by decide +kernel
theorem dX9_copy_82 : decode cX9_copy 82 = .ok (.aload_n 0, 1) := by decide +kernel
theorem dX9_copy_83 : decode cX9_copy 83 = .ok (.iconst 2, 1) := by decide +kernel
theorem dX9_copy_84 : decode cX9_copy 84 = .ok (.invokevirtual 93, 3) := by decide +kernel
theorem dX9_copy_87 : decode cX9_copy 87 = .ok (.ireturn, 1) := by decide +kernel
theorem dX9_copy_88 : decode cX9_copy 88 = .ok (.iconst 0, 1) := by decide +kernel
theorem dX9_copy_89 : decode cX9_copy 89 = .ok (.istore 6, 2) := by decide +kernel
theorem dX9_copy_91 : decode cX9_copy 91 = .ok (.iload 6, 2) := by decide +kernel
theorem dX9_copy_93 : decode cX9_copy 93 = .ok (.iload 5, 2) := by decide +kernel
theorem dX9_copy_95 : decode cX9_copy 95 = .ok (.if_icmp .ge 30, 3) := by decide +kernel
theorem dX9_copy_98 : decode cX9_copy 98 = .ok (.aload_n 0, 1) := by decide +kernel
theorem dX9_copy_99 : decode cX9_copy 99 = .ok (.getfield 28, 3) := by decide +kernel
theorem dX9_copy_102 : decode cX9_copy 102 = .ok (.iload 6, 2) := by decide +kernel
theorem dX9_copy_104 : decode cX9_copy 104 = .ok (.aload_n 0, 1) := by decide +kernel
theorem dX9_copy_105 : decode cX9_copy 105 = .ok (.getfield 16, 3) := by decide +kernel
theorem dX9_copy_108 : decode cX9_copy 108 = .ok (.bipush 40, 2) := by decide +kernel
theorem dX9_copy_110 : decode cX9_copy 110 = .ok (.iload_n 1, 1) := by decide +kernel
theorem dX9_copy_111 : decode cX9_copy 111 = .ok (.imul, 1) := by decide +kernel
theorem dX9_copy_112 : decode cX9_copy 112 = .ok (.iload_n 2, 1) := by decide +kernel
theorem dX9_copy_113 : decode cX9_copy 113 = .ok (.iadd, 1) := by decide +kernel
theorem dX9_copy_114 : decode cX9_copy 114 = .ok (.iload 6, 2) := by decide +kernel
theorem dX9_copy_116 : decode cX9_copy 116 = .ok (.iadd, 1) := by decide +kernel
theorem dX9_copy_117 : decode cX9_copy 117 = .ok (.iaload, 1) := by decide +kernel
theorem dX9_copy_118 : decode cX9_copy 118 = .ok (.iastore, 1) := by decide +kernel
theorem dX9_copy_119 : decode cX9_copy 119 = .ok (.iinc 6 1, 3) := by decide +kernel
theorem dX9_copy_122 : decode cX9_copy 122 = .ok (.goto (-31), 3) := by decide +kernel
theorem dX9_copy_125 : decode cX9_copy 125 = .ok (.iconst 0, 1) := by decide +kernel
theorem dX9_copy_126 : decode cX9_copy 126 = .ok (.istore 6, 2) := by decide +kernel
theorem dX9_copy_128 : decode cX9_copy 128 = .ok (.iload 6, 2) := by decide +kernel
theorem dX9_copy_130 : decode cX9_copy 130 = .ok (.iload 5, 2) := by decide +kernel
theorem dX9_copy_132 : decode cX9_copy 132 = .ok (.if_icmp .ge 31, 3) := by decide +kernel
theorem dX9_copy_135 : decode cX9_copy 135 = .ok (.aload_n 0, 1) := by decide +kernel
theorem dX9_copy_136 : decode cX9_copy 136 = .ok (.getfield 16, 3) := by decide +kernel
theorem dX9_copy_139 : decode cX9_copy 139 = .ok (.bipush 40, 2) := by decide +kernel
theorem dX9_copy_141 : decode cX9_copy 141 = .ok (.iload_n 3, 1) := by decide +kernel
theorem dX9_copy_142 : decode cX9_copy 142 = .ok (.imul, 1) := by decide +kernel
theorem dX9_copy_143 : decode cX9_copy 143 = .ok (.iload 4, 2) := by decide +kernel
theorem dX9_copy_145 : decode cX9_copy 145 = .ok (.iadd, 1) := by decide +kernel
theorem dX9_copy_146 : decode cX9_copy 146 = .ok (.iload 6, 2) := by decide +kernel
theorem dX9_copy_148 : decode cX9_copy 148 = .ok (.iadd, 1) := by decide +kernel
theorem dX9_copy_149 : decode cX9_copy 149 = .ok (.aload_n 0, 1) := by decide +kernel
theorem dX9_copy_150 : decode cX9_copy 150 = .ok (.getfield 28, 3) := by decide +kernel
theorem dX9_copy_153 : decode cX9_copy 153 = .ok (.iload 6, 2) := by decide +kernel
theorem dX9_copy_155 : decode cX9_copy 155 = .ok (.iaload, 1) := by decide +kernel
theorem dX9_copy_156 : decode cX9_copy 156 = .ok (.iastore, 1) := by decide +kernel
theorem dX9_copy_157 : decode cX9_copy 157 = .ok (.iinc 6 1, 3) := by decide +kernel
theorem dX9_copy_160 : decode cX9_copy 160 = .ok (.goto (-32), 3) := by decide +kernel
theorem dX9_copy_163 : decode cX9_copy 163 = .ok (.iconst 1, 1) := by decide +kernel
theorem dX9_copy_164 : decode cX9_copy 164 = .ok (.ireturn, 1) := by decide +kernel
theorem dX9_mean_0 : decode cX9_mean 0 = .ok (.iload_n 1, 1) := by decide +kernel
theorem dX9_mean_1 : decode cX9_mean 1 = .ok (.invokestatic 89, 3) := by decide +kernel
theorem dX9_mean_4 : decode cX9_mean 4 = .ok (.ifCond .ne 5, 3) := by decide +kernel
theorem dX9_mean_7 : decode cX9_mean 7 = .ok (.iconst (-1), 1) := by decide +kernel
theorem dX9_mean_8 : decode cX9_mean 8 = .ok (.ireturn, 1) := by decide +kernel
theorem dX9_mean_9 : decode cX9_mean 9 = .ok (.aload_n 0, 1) := by decide +kernel
theorem dX9_mean_10 : decode cX9_mean 10 = .ok (.getfield 19, 3) := by decide +kernel
theorem dX9_mean_13 : decode cX9_mean 13 = .ok (.iload_n 1, 1) := by decide +kernel
theorem dX9_mean_14 : decode cX9_mean 14 = .ok (.iaload, 1) := by decide +kernel
theorem dX9_mean_15 : decode cX9_mean 15 = .ok (.ifCond .ge 9, 3) := by decide +kernel
theorem dX9_mean_18 : decode cX9_mean 18 = .ok (.aload_n 0, 1) := by decide +kernel
theorem dX9_mean_19 : decode cX9_mean 19 = .ok (.iconst 1, 1) := by decide +kernel
theorem dX9_mean_20 : decode cX9_mean 20 = .ok (.invokevirtual 93, 3) := by decide +kernel
theorem dX9_mean_23 : decode cX9_mean 23 = .ok (.ireturn, 1) := by decide +kernel
theorem dX9_mean_24 : decode cX9_mean 24 = .ok (.aload_n 0, 1) := by decide +kernel
theorem dX9_mean_25 : decode cX9_mean 25 = .ok (.getfield 19, 3) := by decide +kernel
theorem dX9_mean_28 : decode cX9_mean 28 = .ok (.iload_n 1, 1) := by decide +kernel
theorem dX9_mean_29 : decode cX9_mean 29 = .ok (.iaload, 1) := by decide +kernel
theorem dX9_mean_30 : decode cX9_mean 30 = .ok (.ifCond .ne 9, 3) := by decide +kernel
theorem dX9_mean_33 : decode cX9_mean 33 = .ok (.aload_n 0, 1) := by decide +kernel
theorem dX9_mean_34 : decode cX9_mean 34 = .ok (.iconst 4, 1) := by decide +kernel
theorem dX9_mean_35 : decode cX9_mean 35 = .ok (.invokevirtual 93, 3) := by decide +kernel
theorem dX9_mean_38 : decode cX9_mean 38 = .ok (.ireturn, 1) := by decide +kernel
theorem dX9_mean_39 : decode cX9_mean 39 = .ok (.lconst 0, 1) := by decide +kernel
theorem dX9_mean_40 : decode cX9_mean 40 = .ok (.lstore_n 2, 1) := by decide +kernel
theorem dX9_mean_41 : decode cX9_mean 41 = .ok (.iconst 0, 1) := by decide +kernel
theorem dX9_mean_42 : decode cX9_mean 42 = .ok (.istore 4, 2) := by decide +kernel
theorem dX9_mean_44 : decode cX9_mean 44 = .ok (.iload 4, 2) := by decide +kernel
theorem dX9_mean_46 : decode cX9_mean 46 = .ok (.aload_n 0, 1) := by decide +kernel
theorem dX9_mean_47 : decode cX9_mean 47 = .ok (.getfield 19, 3) := by decide +kernel
theorem dX9_mean_50 : decode cX9_mean 50 = .ok (.iload_n 1, 1) := by decide +kernel
theorem dX9_mean_51 : decode cX9_mean 51 = .ok (.iaload, 1) := by decide +kernel
theorem dX9_mean_52 : decode cX9_mean 52 = .ok (.if_icmp .ge 25, 3) := by decide +kernel
theorem dX9_mean_55 : decode cX9_mean 55 = .ok (.lload_n 2, 1) := by decide +kernel
theorem dX9_mean_56 : decode cX9_mean 56 = .ok (.aload_n 0, 1) := by decide +kernel
theorem dX9_mean_57 : decode cX9_mean 57 = .ok (.getfield 16, 3) := by decide +kernel
theorem dX9_mean_60 : decode cX9_mean 60 = .ok (.bipush 40, 2) := by decide +kernel
theorem dX9_mean_62 : decode cX9_mean 62 = .ok (.iload_n 1, 1) := by decide +kernel
theorem dX9_mean_63 : decode cX9_mean 63 = .ok (.imul, 1) := by decide +kernel
theorem dX9_mean_64 : decode cX9_mean 64 = .ok (.iload 4, 2) := by decide +kernel
theorem dX9_mean_66 : decode cX9_mean 66 = .ok (.iadd, 1) := by decide +kernel
theorem dX9_mean_67 : decode cX9_mean 67 = .ok (.iaload, 1) := by decide +kernel
theorem dX9_mean_68 : decode cX9_mean 68 = .ok (.i2l, 1) := by decide +kernel
theorem dX9_mean_69 : decode cX9_mean 69 = .ok (.ladd, 1) := by decide +kernel
theorem dX9_mean_70 : decode cX9_mean 70 = .ok (.lstore_n 2, 1) := by decide +kernel
theorem dX9_mean_71 : decode cX9_mean 71 = .ok (.iinc 4 1, 3) := by decide +kernel
theorem dX9_mean_74 : decode cX9_mean 74 = .ok (.goto (-30), 3) := by decide +kernel
theorem dX9_mean_77 : decode cX9_mean 77 = .ok (.aload_n 0, 1) := by decide +kernel
theorem dX9_mean_78 : decode cX9_mean 78 = .ok (.lload_n 2, 1) := by decide +kernel
theorem dX9_mean_79 : decode cX9_mean 79 = .ok (.aload_n 0, 1) := by decide +kernel
theorem dX9_mean_80 : decode cX9_mean 80 = .ok (.getfield 19, 3) := by decide +kernel
theorem dX9_mean_83 : decode cX9_mean 83 = .ok (.iload_n 1, 1) := by decide +kernel
theorem dX9_mean_84 : decode cX9_mean 84 = .ok (.iaload, 1) := by decide +kernel
theorem dX9_mean_85 : decode cX9_mean 85 = .ok (.i2l, 1) := by decide +kernel
theorem dX9_mean_86 : decode cX9_mean 86 = .ok (.ldiv, 1) := by decide +kernel
theorem dX9_mean_87 : decode cX9_mean 87 = .ok (.l2i, 1) := by decide +kernel
theorem dX9_mean_88 : decode cX9_mean 88 = .ok (.iconst 1, 1) := by decide +kernel
theorem dX9_mean_89 : decode cX9_mean 89 = .ok (.invokevirtual 105, 3) := by decide +kernel
theorem dX9_mean_92 : decode cX9_mean 92 = .ok (.ireturn, 1) := by decide +kernel
theorem dX9_text_0 : decode cX9_text 0 = .ok (.iload_n 1, 1) := by decide +kernel
theorem dX9_text_1 : decode cX9_text 1 = .ok (.invokestatic 112, 3) := by decide +kernel
theorem dX9_text_4 : decode cX9_text 4 = .ok (.ifCond .eq 9, 3) := by decide +kernel
theorem dX9_text_7 : decode cX9_text 7 = .ok (.iload_n 2, 1) := by decide +kernel
theorem dX9_text_8 : decode cX9_text 8 = .ok (.bipush 60, 2) := by decide +kernel
theorem dX9_text_10 : decode cX9_text 10 = .ok (.if_icmp .le 5, 3) := by decide +kernel
theorem dX9_text_13 : decode cX9_text 13 = .ok (.iconst (-1), 1) := by decide +kernel
theorem dX9_text_14 : decode cX9_text 14 = .ok (.ireturn, 1) := by decide +kernel
theorem dX9_text_15 : decode cX9_text 15 = .ok (.iload_n 2, 1) := by decide +kernel
theorem dX9_text_16 : decode cX9_text 16 = .ok (.ifCond .ge 9, 3) := by decide +kernel
theorem dX9_text_19 : decode cX9_text 19 = .ok (.aload_n 0, 1) := by decide +kernel
theorem dX9_text_20 : decode cX9_text 20 = .ok (.iconst 5, 1) := by decide +kernel
theorem dX9_text_21 : decode cX9_text 21 = .ok (.invokevirtual 93, 3) := by decide +kernel
theorem dX9_text_24 : decode cX9_text 24 = .ok (.ireturn, 1) := by decide +kernel
theorem dX9_text_25 : decode cX9_text 25 = .ok (.aload_n 0, 1) := by decide +kernel
theorem dX9_text_26 : decode cX9_text 26 = .ok (.getfield 25, 3) := by decide +kernel
theorem dX9_text_29 : decode cX9_text 29 = .ok (.iload_n 1, 1) := by decide +kernel
theorem dX9_text_30 : decode cX9_text 30 = .ok (.iload_n 2, 1) := by decide +kernel
theorem dX9_text_31 : decode cX9_text 31 = .ok (.iastore, 1) := by decide +kernel
theorem dX9_text_32 : decode cX9_text 32 = .ok (.iconst 0, 1) := by decide +kernel
theorem dX9_text_33 : decode cX9_text 33 = .ok (.istore_n 3, 1) := by decide +kernel
theorem dX9_text_34 : decode cX9_text 34 = .ok (.iload_n 3, 1) := by decide +kernel
theorem dX9_text_35 : decode cX9_text 35 = .ok (.bipush 60, 2) := by decide +kernel
theorem dX9_text_37 : decode cX9_text 37 = .ok (.if_icmp .ge 22, 3) := by decide +kernel
theorem dX9_text_40 : decode cX9_text 40 = .ok (.aload_n 0, 1) := by decide +kernel
theorem dX9_text_41 : decode cX9_text 41 = .ok (.getfield 22, 3) := by decide +kernel
theorem dX9_text_44 : decode cX9_text 44 = .ok (.bipush 60, 2) := by decide +kernel
theorem dX9_text_46 : decode cX9_text 46 = .ok (.iload_n 1, 1) := by decide +kernel
theorem dX9_text_47 : decode cX9_text 47 = .ok (.imul, 1) := by decide +kernel
theorem dX9_text_48 : decode cX9_text 48 = .ok (.iload_n 3, 1) := by decide +kernel
theorem dX9_text_49 : decode cX9_text 49 = .ok (.iadd, 1) := by decide +kernel
theorem dX9_text_50 : decode cX9_text 50 = .ok (.bipush 32, 2) := by decide +kernel
theorem dX9_text_52 : decode cX9_text 52 = .ok (.iastore, 1) := by decide +kernel
theorem dX9_text_53 : decode cX9_text 53 = .ok (.iinc 3 1, 3) := by decide +kernel
theorem dX9_text_56 : decode cX9_text 56 = .ok (.goto (-22), 3) := by decide +kernel
theorem dX9_text_59 : decode cX9_text 59 = .ok (.iload_n 2, 1) := by decide +kernel
theorem dX9_text_60 : decode cX9_text 60 = .ok (.ireturn, 1) := by decide +kernel
theorem dX9_put_0 : decode cX9_put 0 = .ok (.iload_n 1, 1) := by decide +kernel
theorem dX9_put_1 : decode cX9_put 1 = .ok (.invokestatic 112, 3) := by decide +kernel
theorem dX9_put_4 : decode cX9_put 4 = .ok (.ifCond .ne 5, 3) := by decide +kernel
theorem dX9_put_7 : decode cX9_put 7 = .ok (.iconst (-1), 1) := by decide +kernel
theorem dX9_put_8 : decode cX9_put 8 = .ok (.ireturn, 1) := by decide +kernel
theorem dX9_put_9 : decode cX9_put 9 = .ok (.aload_n 0, 1) := by decide +kernel
theorem dX9_put_10 : decode cX9_put 10 = .ok (.getfield 25, 3) := by decide +kernel
theorem dX9_put_13 : decode cX9_put 13 = .ok (.iload_n 1, 1) := by decide +kernel
theorem dX9_put_14 : decode cX9_put 14 = .ok (.iaload, 1) := by decide +kernel
theorem dX9_put_15 : decode cX9_put 15 = .ok (.ifCond .ge 9, 3) := by decide +kernel
theorem dX9_put_18 : decode cX9_put 18 = .ok (.aload_n 0, 1) := by decide +kernel
theorem dX9_put_19 : decode cX9_put 19 = .ok (.iconst 1, 1) := by decide +kernel
theorem dX9_put_20 : decode cX9_put 20 = .ok (.invokevirtual 93, 3) := by decide +kernel
theorem dX9_put_23 : decode cX9_put 23 = .ok (.ireturn, 1) := by decide +kernel
theorem dX9_put_24 : decode cX9_put 24 = .ok (.iload_n 2, 1) := by decide +kernel
theorem dX9_put_25 : decode cX9_put 25 = .ok (.i2l, 1) := by decide +kernel
theorem dX9_put_26 : decode cX9_put 26 = .ok (.lconst 0, 1) := by decide +kernel
theorem dX9_put_27 : decode cX9_put 27 = .ok (.aload_n 0, 1) := by decide +kernel
theorem dX9_put_28 : decode cX9_put 28 = .ok (.getfield 25, 3) := by decide +kernel
theorem dX9_put_31 : decode cX9_put 31 = .ok (.iload_n 1, 1) := by decide +kernel
theorem dX9_put_32 : decode cX9_put 32 = .ok (.iaload, 1) := by decide +kernel
theorem dX9_put_33 : decode cX9_put 33 = .ok (.iconst 1, 1) := by decide +kernel
theorem dX9_put_34 : decode cX9_put 34 = .ok (.isub, 1) := by decide +kernel
theorem dX9_put_35 : decode cX9_put 35 = .ok (.i2l, 1) := by decide +kernel
theorem dX9_put_36 : decode cX9_put 36 = .ok (.invokestatic 83, 3) := by decide +kernel
theorem dX9_put_39 : decode cX9_put 39 = .ok (.ifCond .ne 9, 3) := by decide +kernel
theorem dX9_put_42 : decode cX9_put 42 = .ok (.aload_n 0, 1) := by decide +kernel
theorem dX9_put_43 : decode cX9_put 43 = .ok (.iconst 2, 1) := by decide +kernel
theorem dX9_put_44 : decode cX9_put 44 = .ok (.invokevirtual 93, 3) := by decide +kernel
theorem dX9_put_47 : decode cX9_put 47 = .ok (.ireturn, 1) := by decide +kernel
theorem dX9_put_48 : decode cX9_put 48 = .ok (.aload_n 0, 1) := by decide +kernel
theorem dX9_put_49 : decode cX9_put 49 = .ok (.getfield 22, 3) := by decide +kernel
theorem dX9_put_52 : decode cX9_put 52 = .ok (.bipush 60, 2) := by decide +kernel
theorem dX9_put_54 : decode cX9_put 54 = .ok (.iload_n 1, 1) := by decide +kernel
theorem dX9_put_55 : decode cX9_put 55 = .ok (.imul, 1) := by decide +kernel
theorem dX9_put_56 : decode cX9_put 56 = .ok (.iload_n 2, 1) := by decide +kernel
theorem dX9_put_57 : decode cX9_put 57 = .ok (.iadd, 1) := by decide +kernel
theorem dX9_put_58 : decode cX9_put 58 = .ok (.iaload, 1) := by decide +kernel
theorem dX9_put_59 : decode cX9_put 59 = .ok (.istore 4, 2) := by decide +kernel
theorem dX9_put_61 : decode cX9_put 61 = .ok (.aload_n 0, 1) := by decide +kernel
theorem dX9_put_62 : decode cX9_put 62 = .ok (.getfield 22, 3) := by decide +kernel
theorem dX9_put_65 : decode cX9_put 65 = .ok (.bipush 60, 2) := by decide +kernel
theorem dX9_put_67 : decode cX9_put 67 = .ok (.iload_n 1, 1) := by decide +kernel
theorem dX9_put_68 : decode cX9_put 68 = .ok (.imul, 1) := by decide +kernel
theorem dX9_put_69 : decode cX9_put 69 = .ok (.iload_n 2, 1) := by decide +kernel
theorem dX9_put_70 : decode cX9_put 70 = .ok (.iadd, 1) := by decide +kernel
theorem dX9_put_71 : decode cX9_put 71 = .ok (.iload_n 3, 1) := by decide +kernel
theorem dX9_put_72 : decode cX9_put 72 = .ok (.i2b, 1) := by decide +kernel
theorem dX9_put_73 : decode cX9_put 73 = .ok (.iastore, 1) := by decide +kernel
theorem dX9_put_74 : decode cX9_put 74 = .ok (.iload 4, 2) := by decide +kernel
theorem dX9_put_76 : decode cX9_put 76 = .ok (.sipush 1000, 3) := by decide +kernel
theorem dX9_put_79 : decode cX9_put 79 = .ok (.iadd, 1) := by decide +kernel
theorem dX9_put_80 : decode cX9_put 80 = .ok (.ireturn, 1) := by decide +kernel
theorem dX9_kindOf_0 : decode cX9_kindOf 0 = .ok (.iload_n 0, 1) := by decide +kernel
theorem dX9_kindOf_1 : decode cX9_kindOf 1 = .ok (.bipush 98, 2) := by decide +kernel
theorem dX9_kindOf_3 : decode cX9_kindOf 3 = .ok (.if_icmp .ne 7, 3) := by decide +kernel
theorem dX9_kindOf_6 : decode cX9_kindOf 6 = .ok (.iconst 0, 1) := by decide +kernel
theorem dX9_kindOf_7 : decode cX9_kindOf 7 = .ok (.goto 54, 3) := by decide +kernel
theorem dX9_kindOf_10 : decode cX9_kindOf 10 = .ok (.iload_n 0, 1) := by decide +kernel
theorem dX9_kindOf_11 : decode cX9_kindOf 11 = .ok (.bipush 104, 2) := by decide +kernel
theorem dX9_kindOf_13 : decode cX9_kindOf 13 = .ok (.if_icmp .ne 7, 3) := by decide +kernel
theorem dX9_kindOf_16 : decode cX9_kindOf 16 = .ok (.iconst 1, 1) := by decide +kernel
theorem dX9_kindOf_17 : decode cX9_kindOf 17 = .ok (.goto 44, 3) := by decide +kernel
theorem dX9_kindOf_20 : decode cX9_kindOf 20 = .ok (.iload_n 0, 1) := by decide +kernel
theorem dX9_kindOf_21 : decode cX9_kindOf 21 = .ok (.bipush 113, 2) := by decide +kernel
theorem dX9_kindOf_23 : decode cX9_kindOf 23 = .ok (.if_icmp .ne 7, 3) := by decide +kernel
theorem dX9_kindOf_26 : decode cX9_kindOf 26 = .ok (.iconst 2, 1) := by decide +kernel
theorem dX9_kindOf_27 : decode cX9_kindOf 27 = .ok (.goto 34, 3) := by decide +kernel
theorem dX9_kindOf_30 : decode cX9_kindOf 30 = .ok (.iload_n 0, 1) := by decide +kernel
theorem dX9_kindOf_31 : decode cX9_kindOf 31 = .ok (.bipush 110, 2) := by decide +kernel
theorem dX9_kindOf_33 : decode cX9_kindOf 33 = .ok (.if_icmp .ne 7, 3) := by decide +kernel
theorem dX9_kindOf_36 : decode cX9_kindOf 36 = .ok (.iconst 3, 1) := by decide +kernel
theorem dX9_kindOf_37 : decode cX9_kindOf 37 = .ok (.goto 24, 3) := by decide +kernel
theorem dX9_kindOf_40 : decode cX9_kindOf 40 = .ok (.iload_n 0, 1) := by decide +kernel
theorem dX9_kindOf_41 : decode cX9_kindOf 41 = .ok (.bipush 103, 2) := by decide +kernel
theorem dX9_kindOf_43 : decode cX9_kindOf 43 = .ok (.if_icmp .ne 7, 3) := by decide +kernel
theorem dX9_kindOf_46 : decode cX9_kindOf 46 = .ok (.iconst 4, 1) := by decide +kernel
theorem dX9_kindOf_47 : decode cX9_kindOf 47 = .ok (.goto 14, 3) := by decide +kernel
theorem dX9_kindOf_50 : decode cX9_kindOf 50 = .ok (.iload_n 0, 1) := by decide +kernel
theorem dX9_kindOf_51 : decode cX9_kindOf 51 = .ok (.bipush 116, 2) := by decide +kernel
theorem dX9_kindOf_53 : decode cX9_kindOf 53 = .ok (.if_icmp .ne 7, 3) := by decide +kernel
theorem dX9_kindOf_56 : decode cX9_kindOf 56 = .ok (.iconst 5, 1) := by decide +kernel
theorem dX9_kindOf_57 : decode cX9_kindOf 57 = .ok (.goto 4, 3) := by decide +kernel
theorem dX9_kindOf_60 : decode cX9_kindOf 60 = .ok (.iconst (-1), 1) := by decide +kernel
theorem dX9_kindOf_61 : decode cX9_kindOf 61 = .ok (.ireturn, 1) := by decide +kernel
theorem dX9_byteAt_0 : decode cX9_byteAt 0 = .ok (.iload_n 2, 1) := by decide +kernel
theorem dX9_byteAt_1 : decode cX9_byteAt 1 = .ok (.aload_n 0, 1) := by decide +kernel
theorem dX9_byteAt_2 : decode cX9_byteAt 2 = .ok (.getfield 25, 3) := by decide +kernel
theorem dX9_byteAt_5 : decode cX9_byteAt 5 = .ok (.iload_n 1, 1) := by decide +kernel
theorem dX9_byteAt_6 : decode cX9_byteAt 6 = .ok (.iaload, 1) := by decide +kernel
theorem dX9_byteAt_7 : decode cX9_byteAt 7 = .ok (.if_icmp .ge 17, 3) := by decide +kernel
theorem dX9_byteAt_10 : decode cX9_byteAt 10 = .ok (.aload_n 0, 1) := by decide +kernel
theorem dX9_byteAt_11 : decode cX9_byteAt 11 = .ok (.getfield 22, 3) := by decide +kernel
theorem dX9_byteAt_14 : decode cX9_byteAt 14 = .ok (.bipush 60, 2) := by decide +kernel
theorem dX9_byteAt_16 : decode cX9_byteAt 16 = .ok (.iload_n 1, 1) := by decide +kernel
theorem dX9_byteAt_17 : decode cX9_byteAt 17 = .ok (.imul, 1) := by decide +kernel
theorem dX9_byteAt_18 : decode cX9_byteAt 18 = .ok (.iload_n 2, 1) := by decide +kernel
theorem dX9_byteAt_19 : decode cX9_byteAt 19 = .ok (.iadd, 1) := by decide +kernel
theorem dX9_byteAt_20 : decode cX9_byteAt 20 = .ok (.iaload, 1) := by decide +kernel
theorem dX9_byteAt_21 : decode cX9_byteAt 21 = .ok (.goto 6, 3) := by decide +kernel
theorem dX9_byteAt_24 : decode cX9_byteAt 24 = .ok (.sipush (-1000), 3) := by decide +kernel
theorem dX9_byteAt_27 : decode cX9_byteAt 27 = .ok (.ireturn, 1) := by decide +kernel
theorem dX9_blanks_0 : decode cX9_blanks 0 = .ok (.aload_n 0, 1) := by decide +kernel
theorem dX9_blanks_1 : decode cX9_blanks 1 = .ok (.iload_n 1, 1) := by decide +kernel
theorem dX9_blanks_2 : decode cX9_blanks 2 = .ok (.aload_n 0, 1) := by decide +kernel
theorem dX9_blanks_3 : decode cX9_blanks 3 = .ok (.getfield 115, 3) := by decide +kernel
theorem dX9_blanks_6 : decode cX9_blanks 6 = .ok (.invokevirtual 118, 3) := by decide +kernel
theorem dX9_blanks_9 : decode cX9_blanks 9 = .ok (.bipush 32, 2) := by decide +kernel
theorem dX9_blanks_11 : decode cX9_blanks 11 = .ok (.if_icmp .ne 16, 3) := by decide +kernel
theorem dX9_blanks_14 : decode cX9_blanks 14 = .ok (.aload_n 0, 1) := by decide +kernel
theorem dX9_blanks_15 : decode cX9_blanks 15 = .ok (.dup, 1) := by decide +kernel
theorem dX9_blanks_16 : decode cX9_blanks 16 = .ok (.getfield 115, 3) := by decide +kernel
theorem dX9_blanks_19 : decode cX9_blanks 19 = .ok (.iconst 1, 1) := by decide +kernel
theorem dX9_blanks_20 : decode cX9_blanks 20 = .ok (.iadd, 1) := by decide +kernel
theorem dX9_blanks_21 : decode cX9_blanks 21 = .ok (.putfield 115, 3) := by decide +kernel
theorem dX9_blanks_24 : decode cX9_blanks 24 = .ok (.goto (-24), 3) := by decide +kernel
theorem dX9_blanks_27 : decode cX9_blanks 27 = .ok (.return_, 1) := by decide +kernel
theorem dX9_figure_0 : decode cX9_figure 0 = .ok (.aload_n 0, 1) := by decide +kernel
theorem dX9_figure_1 : decode cX9_figure 1 = .ok (.iload_n 1, 1) := by decide +kernel
theorem dX9_figure_2 : decode cX9_figure 2 = .ok (.aload_n 0, 1) := by decide +kernel
theorem dX9_figure_3 : decode cX9_figure 3 = .ok (.getfield 115, 3) := by decide +kernel
theorem dX9_figure_6 : decode cX9_figure 6 = .ok (.invokevirtual 118, 3) := by decide +kernel
theorem dX9_figure_9 : decode cX9_figure 9 = .ok (.bipush 48, 2) := by decide +kernel
theorem dX9_figure_11 : decode cX9_figure 11 = .ok (.isub, 1) := by decide +kernel
theorem dX9_figure_12 : decode cX9_figure 12 = .ok (.istore 4, 2) := by decide +kernel
theorem dX9_figure_14 : decode cX9_figure 14 = .ok (.iload 4, 2) := by decide +kernel
theorem dX9_figure_16 : decode cX9_figure 16 = .ok (.i2l, 1) := by decide +kernel
theorem dX9_figure_17 : decode cX9_figure 17 = .ok (.iload_n 2, 1) := by decide +kernel
theorem dX9_figure_18 : decode cX9_figure 18 = .ok (.i2l, 1) := by decide +kernel
theorem dX9_figure_19 : decode cX9_figure 19 = .ok (.iload_n 3, 1) := by decide +kernel
theorem dX9_figure_20 : decode cX9_figure 20 = .ok (.i2l, 1) := by decide +kernel
theorem dX9_figure_21 : decode cX9_figure 21 = .ok (.invokestatic 83, 3) := by decide +kernel
theorem dX9_figure_24 : decode cX9_figure 24 = .ok (.ifCond .ne 5, 3) := by decide +kernel
theorem dX9_figure_27 : decode cX9_figure 27 = .ok (.iconst (-1), 1) := by decide +kernel
theorem dX9_figure_28 : decode cX9_figure 28 = .ok (.ireturn, 1) := by decide +kernel
theorem dX9_figure_29 : decode cX9_figure 29 = .ok (.aload_n 0, 1) := by decide +kernel
theorem dX9_figure_30 : decode cX9_figure 30 = .ok (.dup, 1) := by decide +kernel
theorem dX9_figure_31 : decode cX9_figure 31 = .ok (.getfield 115, 3) := by decide +kernel
theorem dX9_figure_34 : decode cX9_figure 34 = .ok (.iconst 1, 1) := by decide +kernel
theorem dX9_figure_35 : decode cX9_figure 35 = .ok (.iadd, 1) := by decide +kernel
theorem dX9_figure_36 : decode cX9_figure 36 = .ok (.putfield 115, 3) := by decide +kernel
theorem dX9_figure_39 : decode cX9_figure 39 = .ok (.iload 4, 2) := by decide +kernel
theorem dX9_figure_41 : decode cX9_figure 41 = .ok (.ireturn, 1) := by decide +kernel
theorem dX9_takesBell_0 : decode cX9_takesBell 0 = .ok (.aload_n 0, 1) := by decide +kernel
theorem dX9_takesBell_1 : decode cX9_takesBell 1 = .ok (.iload_n 1, 1) := by decide +kernel
theorem dX9_takesBell_2 : decode cX9_takesBell 2 = .ok (.aload_n 0, 1) := by decide +kernel
theorem dX9_takesBell_3 : decode cX9_takesBell 3 = .ok (.getfield 115, 3) := by decide +kernel
theorem dX9_takesBell_6 : decode cX9_takesBell 6 = .ok (.invokevirtual 118, 3) := by decide +kernel
theorem dX9_takesBell_9 : decode cX9_takesBell 9 = .ok (.invokestatic 121, 3) := by decide +kernel
theorem dX9_takesBell_12 : decode cX9_takesBell 12 = .ok (.istore_n 2, 1) := by decide +kernel
theorem dX9_takesBell_13 : decode cX9_takesBell 13 = .ok (.aload_n 0, 1) := by decide +kernel
theorem dX9_takesBell_14 : decode cX9_takesBell 14 = .ok (.getfield 7, 3) := by decide +kernel
theorem dX9_takesBell_17 : decode cX9_takesBell 17 = .ok (.sipush 5248, 3) := by decide +kernel
theorem dX9_takesBell_20 : decode cX9_takesBell 20 = .ok (.iaload, 1) := by decide +kernel
theorem dX9_takesBell_21 : decode cX9_takesBell 21 = .ok (.istore_n 3, 1) := by decide +kernel
theorem dX9_takesBell_22 : decode cX9_takesBell 22 = .ok (.iload_n 2, 1) := by decide +kernel
theorem dX9_takesBell_23 : decode cX9_takesBell 23 = .ok (.ifCond .lt 9, 3) := by decide +kernel
theorem dX9_takesBell_26 : decode cX9_takesBell 26 = .ok (.iload_n 3, 1) := by decide +kernel
theorem dX9_takesBell_27 : decode cX9_takesBell 27 = .ok (.bipush 6, 2) := by decide +kernel
theorem dX9_takesBell_29 : decode cX9_takesBell 29 = .ok (.if_icmp .ne 5, 3) := by decide +kernel
theorem dX9_takesBell_32 : decode cX9_takesBell 32 = .ok (.iconst 0, 1) := by decide +kernel
theorem dX9_takesBell_33 : decode cX9_takesBell 33 = .ok (.ireturn, 1) := by decide +kernel
theorem dX9_takesBell_34 : decode cX9_takesBell 34 = .ok (.aload_n 0, 1) := by decide +kernel
theorem dX9_takesBell_35 : decode cX9_takesBell 35 = .ok (.dup, 1) := by decide +kernel
theorem dX9_takesBell_36 : decode cX9_takesBell 36 = .ok (.getfield 115, 3) := by decide +kernel
theorem dX9_takesBell_39 : decode cX9_takesBell 39 = .ok (.iconst 1, 1) := by decide +kernel
theorem dX9_takesBell_40 : decode cX9_takesBell 40 = .ok (.iadd, 1) := by decide +kernel
theorem dX9_takesBell_41 : decode cX9_takesBell 41 = .ok (.putfield 115, 3) := by decide +kernel
theorem dX9_takesBell_44 : decode cX9_takesBell 44 = .ok (.aload_n 0, 1) := by decide +kernel
theorem dX9_takesBell_45 : decode cX9_takesBell 45 = .ok (.iload_n 1, 1) := by decide +kernel
theorem dX9_takesBell_46 : decode cX9_takesBell 46 = .ok (.iconst 1, 1) := by decide +kernel
theorem dX9_takesBell_47 : decode cX9_takesBell 47 = .ok (.bipush 9, 2) := by decide +kernel
theorem dX9_takesBell_49 : decode cX9_takesBell 49 = .ok (.invokevirtual 124, 3) := by decide +kernel
theorem dX9_takesBell_52 : decode cX9_takesBell 52 = .ok (.istore 4, 2) := by decide +kernel
theorem dX9_takesBell_54 : decode cX9_takesBell 54 = .ok (.iload 4, 2) := by decide +kernel
theorem dX9_takesBell_56 : decode cX9_takesBell 56 = .ok (.ifCond .ge 7, 3) := by decide +kernel
theorem dX9_takesBell_59 : decode cX9_takesBell 59 = .ok (.iconst (-1), 1) := by decide +kernel
theorem dX9_takesBell_60 : decode cX9_takesBell 60 = .ok (.goto 10, 3) := by decide +kernel
theorem dX9_takesBell_63 : decode cX9_takesBell 63 = .ok (.aload_n 0, 1) := by decide +kernel
theorem dX9_takesBell_64 : decode cX9_takesBell 64 = .ok (.iload_n 1, 1) := by decide +kernel
theorem dX9_takesBell_65 : decode cX9_takesBell 65 = .ok (.iconst 0, 1) := by decide +kernel
theorem dX9_takesBell_66 : decode cX9_takesBell 66 = .ok (.iconst 2, 1) := by decide +kernel
theorem dX9_takesBell_67 : decode cX9_takesBell 67 = .ok (.invokevirtual 124, 3) := by decide +kernel
theorem dX9_takesBell_70 : decode cX9_takesBell 70 = .ok (.istore 5, 2) := by decide +kernel
theorem dX9_takesBell_72 : decode cX9_takesBell 72 = .ok (.iload 5, 2) := by decide +kernel
theorem dX9_takesBell_74 : decode cX9_takesBell 74 = .ok (.ifCond .ge 7, 3) := by decide +kernel
theorem dX9_takesBell_77 : decode cX9_takesBell 77 = .ok (.iconst (-1), 1) := by decide +kernel
theorem dX9_takesBell_78 : decode cX9_takesBell 78 = .ok (.goto 21, 3) := by decide +kernel
theorem dX9_takesBell_81 : decode cX9_takesBell 81 = .ok (.aload_n 0, 1) := by decide +kernel
theorem dX9_takesBell_82 : decode cX9_takesBell 82 = .ok (.iload_n 1, 1) := by decide +kernel
theorem dX9_takesBell_83 : decode cX9_takesBell 83 = .ok (.iconst 0, 1) := by decide +kernel
theorem dX9_takesBell_84 : decode cX9_takesBell 84 = .ok (.iload 5, 2) := by decide +kernel
theorem dX9_takesBell_86 : decode cX9_takesBell 86 = .ok (.iconst 2, 1) := by decide +kernel
theorem dX9_takesBell_87 : decode cX9_takesBell 87 = .ok (.if_icmp .ne 7, 3) := by decide +kernel
theorem dX9_takesBell_90 : decode cX9_takesBell 90 = .ok (.iconst 0, 1) := by decide +kernel
theorem dX9_takesBell_91 : decode cX9_takesBell 91 = .ok (.goto 5, 3) := by decide +kernel
theorem dX9_takesBell_94 : decode cX9_takesBell 94 = .ok (.bipush 9, 2) := by decide +kernel
theorem dX9_takesBell_96 : decode cX9_takesBell 96 = .ok (.invokevirtual 124, 3) := by decide +kernel
theorem dX9_takesBell_99 : decode cX9_takesBell 99 = .ok (.istore 6, 2) := by decide +kernel
theorem dX9_takesBell_101 : decode cX9_takesBell 101 = .ok (.iload 6, 2) := by decide +kernel
theorem dX9_takesBell_103 : decode cX9_takesBell 103 = .ok (.ifCond .ge 5, 3) := by decide +kernel
theorem dX9_takesBell_106 : decode cX9_takesBell 106 = .ok (.iconst 0, 1) := by decide +kernel
theorem dX9_takesBell_107 : decode cX9_takesBell 107 = .ok (.ireturn, 1) := by decide +kernel
theorem dX9_takesBell_108 : decode cX9_takesBell 108 = .ok (.aload_n 0, 1) := by decide +kernel
theorem dX9_takesBell_109 : decode cX9_takesBell 109 = .ok (.getfield 7, 3) := by decide +kernel
theorem dX9_takesBell_112 : decode cX9_takesBell 112 = .ok (.sipush 5250, 3) := by decide +kernel
theorem dX9_takesBell_115 : decode cX9_takesBell 115 = .ok (.iload_n 3, 1) := by decide +kernel
theorem dX9_takesBell_116 : decode cX9_takesBell 116 = .ok (.iadd, 1) := by decide +kernel
theorem dX9_takesBell_117 : decode cX9_takesBell 117 = .ok (.iload_n 2, 1) := by decide +kernel
theorem dX9_takesBell_118 : decode cX9_takesBell 118 = .ok (.iastore, 1) := by decide +kernel
theorem dX9_takesBell_119 : decode cX9_takesBell 119 = .ok (.aload_n 0, 1) := by decide +kernel
theorem dX9_takesBell_120 : decode cX9_takesBell 120 = .ok (.getfield 7, 3) := by decide +kernel
theorem dX9_takesBell_123 : decode cX9_takesBell 123 = .ok (.sipush 5256, 3) := by decide +kernel
theorem dX9_takesBell_126 : decode cX9_takesBell 126 = .ok (.iload_n 3, 1) := by decide +kernel
theorem dX9_takesBell_127 : decode cX9_takesBell 127 = .ok (.iadd, 1) := by decide +kernel
theorem dX9_takesBell_128 : decode cX9_takesBell 128 = .ok (.iload 4, 2) := by decide +kernel
theorem dX9_takesBell_130 : decode cX9_takesBell 130 = .ok (.iastore, 1) := by decide +kernel
theorem dX9_takesBell_131 : decode cX9_takesBell 131 = .ok (.aload_n 0, 1) := by decide +kernel
theorem dX9_takesBell_132 : decode cX9_takesBell 132 = .ok (.getfield 7, 3) := by decide +kernel
theorem dX9_takesBell_135 : decode cX9_takesBell 135 = .ok (.sipush 5262, 3) := by decide +kernel
theorem dX9_takesBell_138 : decode cX9_takesBell 138 = .ok (.iload_n 3, 1) := by decide +kernel
theorem dX9_takesBell_139 : decode cX9_takesBell 139 = .ok (.iadd, 1) := by decide +kernel
theorem dX9_takesBell_140 : decode cX9_takesBell 140 = .ok (.bipush 10, 2) := by decide +kernel
theorem dX9_takesBell_142 : decode cX9_takesBell 142 = .ok (.iload 5, 2) := by decide +kernel
theorem dX9_takesBell_144 : decode cX9_takesBell 144 = .ok (.imul, 1) := by decide +kernel
theorem dX9_takesBell_145 : decode cX9_takesBell 145 = .ok (.iload 6, 2) := by decide +kernel
theorem dX9_takesBell_147 : decode cX9_takesBell 147 = .ok (.iadd, 1) := by decide +kernel
theorem dX9_takesBell_148 : decode cX9_takesBell 148 = .ok (.iastore, 1) := by decide +kernel
theorem dX9_takesBell_149 : decode cX9_takesBell 149 = .ok (.aload_n 0, 1) := by decide +kernel
theorem dX9_takesBell_150 : decode cX9_takesBell 150 = .ok (.getfield 7, 3) := by decide +kernel
theorem dX9_takesBell_153 : decode cX9_takesBell 153 = .ok (.sipush 5248, 3) := by decide +kernel
theorem dX9_takesBell_156 : decode cX9_takesBell 156 = .ok (.dup2, 1) := by decide +kernel
theorem dX9_takesBell_157 : decode cX9_takesBell 157 = .ok (.iaload, 1) := by decide +kernel
theorem dX9_takesBell_158 : decode cX9_takesBell 158 = .ok (.iconst 1, 1) := by decide +kernel
theorem dX9_takesBell_159 : decode cX9_takesBell 159 = .ok (.iadd, 1) := by decide +kernel
theorem dX9_takesBell_160 : decode cX9_takesBell 160 = .ok (.iastore, 1) := by decide +kernel
theorem dX9_takesBell_161 : decode cX9_takesBell 161 = .ok (.iconst 1, 1) := by decide +kernel
theorem dX9_takesBell_162 : decode cX9_takesBell 162 = .ok (.ireturn, 1) := by decide +kernel
theorem dX9_faultOf_0 : decode cX9_faultOf 0 = .ok (.iconst 0, 1) := by decide +kernel
theorem dX9_faultOf_1 : decode cX9_faultOf 1 = .ok (.istore_n 2, 1) := by decide +kernel
theorem dX9_faultOf_2 : decode cX9_faultOf 2 = .ok (.iload_n 2, 1) := by decide +kernel
theorem dX9_faultOf_3 : decode cX9_faultOf 3 = .ok (.bipush 32, 2) := by decide +kernel
theorem dX9_faultOf_5 : decode cX9_faultOf 5 = .ok (.if_icmp .ge 20, 3) := by decide +kernel
theorem dX9_faultOf_8 : decode cX9_faultOf 8 = .ok (.aload_n 0, 1) := by decide +kernel
theorem dX9_faultOf_9 : decode cX9_faultOf 9 = .ok (.getfield 7, 3) := by decide +kernel
theorem dX9_faultOf_12 : decode cX9_faultOf 12 = .ok (.sipush 5248, 3) := by decide +kernel
theorem dX9_faultOf_15 : decode cX9_faultOf 15 = .ok (.iload_n 2, 1) := by decide +kernel
theorem dX9_faultOf_16 : decode cX9_faultOf 16 = .ok (.iadd, 1) := by decide +kernel
theorem dX9_faultOf_17 : decode cX9_faultOf 17 = .ok (.iconst 0, 1) := by decide +kernel
theorem dX9_faultOf_18 : decode cX9_faultOf 18 = .ok (.iastore, 1) := by decide +kernel
theorem dX9_faultOf_19 : decode cX9_faultOf 19 = .ok (.iinc 2 1, 3) := by decide +kernel
theorem dX9_faultOf_22 : decode cX9_faultOf 22 = .ok (.goto (-20), 3) := by decide +kernel
theorem dX9_faultOf_25 : decode cX9_faultOf 25 = .ok (.aload_n 0, 1) := by decide +kernel
theorem dX9_faultOf_26 : decode cX9_faultOf 26 = .ok (.iconst 0, 1) := by decide +kernel
theorem dX9_faultOf_27 : decode cX9_faultOf 27 = .ok (.putfield 115, 3) := by decide +kernel
theorem dX9_faultOf_30 : decode cX9_faultOf 30 = .ok (.aload_n 0, 1) := by decide +kernel
theorem dX9_faultOf_31 : decode cX9_faultOf 31 = .ok (.iload_n 1, 1) := by decide +kernel
theorem dX9_faultOf_32 : decode cX9_faultOf 32 = .ok (.invokevirtual 128, 3) := by decide +kernel
theorem dX9_faultOf_35 : decode cX9_faultOf 35 = .ok (.aload_n 0, 1) := by decide +kernel
theorem dX9_faultOf_36 : decode cX9_faultOf 36 = .ok (.iload_n 1, 1) := by decide +kernel
theorem dX9_faultOf_37 : decode cX9_faultOf 37 = .ok (.aload_n 0, 1) := by decide +kernel
theorem dX9_faultOf_38 : decode cX9_faultOf 38 = .ok (.getfield 115, 3) := by decide +kernel
theorem dX9_faultOf_41 : decode cX9_faultOf 41 = .ok (.invokevirtual 118, 3) := by decide +kernel
theorem dX9_faultOf_44 : decode cX9_faultOf 44 = .ok (.bipush 100, 2) := by decide +kernel
theorem dX9_faultOf_46 : decode cX9_faultOf 46 = .ok (.if_icmp .eq 8, 3) := by decide +kernel
theorem dX9_faultOf_49 : decode cX9_faultOf 49 = .ok (.aload_n 0, 1) := by decide +kernel
theorem dX9_faultOf_50 : decode cX9_faultOf 50 = .ok (.getfield 115, 3) := by decide +kernel
theorem dX9_faultOf_53 : decode cX9_faultOf 53 = .ok (.ireturn, 1) := by decide +kernel
theorem dX9_faultOf_54 : decode cX9_faultOf 54 = .ok (.aload_n 0, 1) := by decide +kernel
theorem dX9_faultOf_55 : decode cX9_faultOf 55 = .ok (.dup, 1) := by decide +kernel
theorem dX9_faultOf_56 : decode cX9_faultOf 56 = .ok (.getfield 115, 3) := by decide +kernel
theorem dX9_faultOf_59 : decode cX9_faultOf 59 = .ok (.iconst 1, 1) := by decide +kernel
theorem dX9_faultOf_60 : decode cX9_faultOf 60 = .ok (.iadd, 1) := by decide +kernel
theorem dX9_faultOf_61 : decode cX9_faultOf 61 = .ok (.putfield 115, 3) := by decide +kernel
theorem dX9_faultOf_64 : decode cX9_faultOf 64 = .ok (.aload_n 0, 1) := by decide +kernel
theorem dX9_faultOf_65 : decode cX9_faultOf 65 = .ok (.iload_n 1, 1) := by decide +kernel
theorem dX9_faultOf_66 : decode cX9_faultOf 66 = .ok (.iconst 0, 1) := by decide +kernel
theorem dX9_faultOf_67 : decode cX9_faultOf 67 = .ok (.iconst 3, 1) := by decide +kernel
theorem dX9_faultOf_68 : decode cX9_faultOf 68 = .ok (.invokevirtual 124, 3) := by decide +kernel
