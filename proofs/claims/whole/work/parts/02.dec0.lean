theorem dX0_init_0 : decode cX0_init 0 = .ok (.aload_n 0, 1) := by decide +kernel
theorem dX0_init_1 : decode cX0_init 1 = .ok (.invokespecial 3, 3) := by decide +kernel
theorem dX0_init_4 : decode cX0_init 4 = .ok (.return_, 1) := by decide +kernel
theorem dX0_begin_0 : decode cX0_begin 0 = .ok (.aload_n 0, 1) := by decide +kernel
theorem dX0_begin_1 : decode cX0_begin 1 = .ok (.iload_n 1, 1) := by decide +kernel
theorem dX0_begin_2 : decode cX0_begin 2 = .ok (.putfield 9, 3) := by decide +kernel
theorem dX0_begin_5 : decode cX0_begin 5 = .ok (.aload_n 0, 1) := by decide +kernel
theorem dX0_begin_6 : decode cX0_begin 6 = .ok (.iload_n 2, 1) := by decide +kernel
theorem dX0_begin_7 : decode cX0_begin 7 = .ok (.putfield 15, 3) := by decide +kernel
theorem dX0_begin_10 : decode cX0_begin 10 = .ok (.aload_n 0, 1) := by decide +kernel
theorem dX0_begin_11 : decode cX0_begin 11 = .ok (.iload_n 3, 1) := by decide +kernel
theorem dX0_begin_12 : decode cX0_begin 12 = .ok (.putfield 18, 3) := by decide +kernel
theorem dX0_begin_15 : decode cX0_begin 15 = .ok (.aload_n 0, 1) := by decide +kernel
theorem dX0_begin_16 : decode cX0_begin 16 = .ok (.invokevirtual 21, 3) := by decide +kernel
theorem dX0_begin_19 : decode cX0_begin 19 = .ok (.return_, 1) := by decide +kernel
theorem dX0_become_0 : decode cX0_become 0 = .ok (.aload_n 0, 1) := by decide +kernel
theorem dX0_become_1 : decode cX0_become 1 = .ok (.aload_n 1, 1) := by decide +kernel
theorem dX0_become_2 : decode cX0_become 2 = .ok (.getfield 9, 3) := by decide +kernel
theorem dX0_become_5 : decode cX0_become 5 = .ok (.aload_n 1, 1) := by decide +kernel
theorem dX0_become_6 : decode cX0_become 6 = .ok (.getfield 15, 3) := by decide +kernel
theorem dX0_become_9 : decode cX0_become 9 = .ok (.aload_n 1, 1) := by decide +kernel
theorem dX0_become_10 : decode cX0_become 10 = .ok (.getfield 18, 3) := by decide +kernel
theorem dX0_become_13 : decode cX0_become 13 = .ok (.invokevirtual 24, 3) := by decide +kernel
theorem dX0_become_16 : decode cX0_become 16 = .ok (.aload_n 0, 1) := by decide +kernel
theorem dX0_become_17 : decode cX0_become 17 = .ok (.aload_n 1, 1) := by decide +kernel
theorem dX0_become_18 : decode cX0_become 18 = .ok (.getfield 28, 3) := by decide +kernel
theorem dX0_become_21 : decode cX0_become 21 = .ok (.putfield 28, 3) := by decide +kernel
theorem dX0_become_24 : decode cX0_become 24 = .ok (.aload_n 0, 1) := by decide +kernel
theorem dX0_become_25 : decode cX0_become 25 = .ok (.aload_n 1, 1) := by decide +kernel
theorem dX0_become_26 : decode cX0_become 26 = .ok (.getfield 31, 3) := by decide +kernel
theorem dX0_become_29 : decode cX0_become 29 = .ok (.putfield 31, 3) := by decide +kernel
theorem dX0_become_32 : decode cX0_become 32 = .ok (.aload_n 0, 1) := by decide +kernel
theorem dX0_become_33 : decode cX0_become 33 = .ok (.aload_n 1, 1) := by decide +kernel
theorem dX0_become_34 : decode cX0_become 34 = .ok (.getfield 34, 3) := by decide +kernel
theorem dX0_become_37 : decode cX0_become 37 = .ok (.putfield 34, 3) := by decide +kernel
theorem dX0_become_40 : decode cX0_become 40 = .ok (.return_, 1) := by decide +kernel
theorem dX0_rewind_0 : decode cX0_rewind 0 = .ok (.aload_n 0, 1) := by decide +kernel
theorem dX0_rewind_1 : decode cX0_rewind 1 = .ok (.aload_n 0, 1) := by decide +kernel
theorem dX0_rewind_2 : decode cX0_rewind 2 = .ok (.getfield 18, 3) := by decide +kernel
theorem dX0_rewind_5 : decode cX0_rewind 5 = .ok (.putfield 28, 3) := by decide +kernel
theorem dX0_rewind_8 : decode cX0_rewind 8 = .ok (.aload_n 0, 1) := by decide +kernel
theorem dX0_rewind_9 : decode cX0_rewind 9 = .ok (.iconst 0, 1) := by decide +kernel
theorem dX0_rewind_10 : decode cX0_rewind 10 = .ok (.putfield 31, 3) := by decide +kernel
theorem dX0_rewind_13 : decode cX0_rewind 13 = .ok (.aload_n 0, 1) := by decide +kernel
theorem dX0_rewind_14 : decode cX0_rewind 14 = .ok (.iconst 0, 1) := by decide +kernel
theorem dX0_rewind_15 : decode cX0_rewind 15 = .ok (.putfield 34, 3) := by decide +kernel
theorem dX0_rewind_18 : decode cX0_rewind 18 = .ok (.return_, 1) := by decide +kernel
theorem dX0_swing_0 : decode cX0_swing 0 = .ok (.aload_n 0, 1) := by decide +kernel
theorem dX0_swing_1 : decode cX0_swing 1 = .ok (.getfield 34, 3) := by decide +kernel
theorem dX0_swing_4 : decode cX0_swing 4 = .ok (.ifCond .eq 4, 3) := by decide +kernel
theorem dX0_swing_7 : decode cX0_swing 7 = .ok (.return_, 1) := by decide +kernel
theorem dX0_swing_8 : decode cX0_swing 8 = .ok (.aload_n 0, 1) := by decide +kernel
theorem dX0_swing_9 : decode cX0_swing 9 = .ok (.getfield 9, 3) := by decide +kernel
theorem dX0_swing_12 : decode cX0_swing 12 = .ok (.aload_n 0, 1) := by decide +kernel
theorem dX0_swing_13 : decode cX0_swing 13 = .ok (.getfield 28, 3) := by decide +kernel
theorem dX0_swing_16 : decode cX0_swing 16 = .ok (.iload_n 1, 1) := by decide +kernel
theorem dX0_swing_17 : decode cX0_swing 17 = .ok (.invokestatic 38, 3) := by decide +kernel
theorem dX0_swing_20 : decode cX0_swing 20 = .ok (.istore_n 2, 1) := by decide +kernel
theorem dX0_swing_21 : decode cX0_swing 21 = .ok (.aload_n 0, 1) := by decide +kernel
theorem dX0_swing_22 : decode cX0_swing 22 = .ok (.iload_n 2, 1) := by decide +kernel
theorem dX0_swing_23 : decode cX0_swing 23 = .ok (.iconst (-1), 1) := by decide +kernel
theorem dX0_swing_24 : decode cX0_swing 24 = .ok (.if_icmp .ne 7, 3) := by decide +kernel
theorem dX0_swing_27 : decode cX0_swing 27 = .ok (.iconst 1, 1) := by decide +kernel
theorem dX0_swing_28 : decode cX0_swing 28 = .ok (.goto 4, 3) := by decide +kernel
theorem dX0_swing_31 : decode cX0_swing 31 = .ok (.iconst 0, 1) := by decide +kernel
theorem dX0_swing_32 : decode cX0_swing 32 = .ok (.putfield 34, 3) := by decide +kernel
theorem dX0_swing_35 : decode cX0_swing 35 = .ok (.aload_n 0, 1) := by decide +kernel
theorem dX0_swing_36 : decode cX0_swing 36 = .ok (.aload_n 0, 1) := by decide +kernel
theorem dX0_swing_37 : decode cX0_swing 37 = .ok (.getfield 34, 3) := by decide +kernel
theorem dX0_swing_40 : decode cX0_swing 40 = .ok (.ifCond .eq 7, 3) := by decide +kernel
theorem dX0_swing_43 : decode cX0_swing 43 = .ok (.iconst 0, 1) := by decide +kernel
theorem dX0_swing_44 : decode cX0_swing 44 = .ok (.goto 4, 3) := by decide +kernel
theorem dX0_swing_47 : decode cX0_swing 47 = .ok (.iload_n 2, 1) := by decide +kernel
theorem dX0_swing_48 : decode cX0_swing 48 = .ok (.putfield 28, 3) := by decide +kernel
theorem dX0_swing_51 : decode cX0_swing 51 = .ok (.aload_n 0, 1) := by decide +kernel
theorem dX0_swing_52 : decode cX0_swing 52 = .ok (.dup, 1) := by decide +kernel
theorem dX0_swing_53 : decode cX0_swing 53 = .ok (.getfield 31, 3) := by decide +kernel
theorem dX0_swing_56 : decode cX0_swing 56 = .ok (.iconst 1, 1) := by decide +kernel
theorem dX0_swing_57 : decode cX0_swing 57 = .ok (.iadd, 1) := by decide +kernel
theorem dX0_swing_58 : decode cX0_swing 58 = .ok (.putfield 31, 3) := by decide +kernel
theorem dX0_swing_61 : decode cX0_swing 61 = .ok (.return_, 1) := by decide +kernel
theorem dX0_renewStay_0 : decode cX0_renewStay 0 = .ok (.aload_n 0, 1) := by decide +kernel
theorem dX0_renewStay_1 : decode cX0_renewStay 1 = .ok (.iconst 0, 1) := by decide +kernel
theorem dX0_renewStay_2 : decode cX0_renewStay 2 = .ok (.putfield 34, 3) := by decide +kernel
theorem dX0_renewStay_5 : decode cX0_renewStay 5 = .ok (.aload_n 0, 1) := by decide +kernel
theorem dX0_renewStay_6 : decode cX0_renewStay 6 = .ok (.iconst 0, 1) := by decide +kernel
theorem dX0_renewStay_7 : decode cX0_renewStay 7 = .ok (.putfield 28, 3) := by decide +kernel
theorem dX0_renewStay_10 : decode cX0_renewStay 10 = .ok (.return_, 1) := by decide +kernel
theorem dX0_tell_0 : decode cX0_tell 0 = .ok (.iload_n 1, 1) := by decide +kernel
theorem dX0_tell_1 : decode cX0_tell 1 = .ok (.tableswitch 78 0 4 #[35, 40, 45, 50, 63], 35) := by decide +kernel
theorem dX0_tell_36 : decode cX0_tell 36 = .ok (.aload_n 0, 1) := by decide +kernel
theorem dX0_tell_37 : decode cX0_tell 37 = .ok (.getfield 9, 3) := by decide +kernel
theorem dX0_tell_40 : decode cX0_tell 40 = .ok (.ireturn, 1) := by decide +kernel
theorem dX0_tell_41 : decode cX0_tell 41 = .ok (.aload_n 0, 1) := by decide +kernel
theorem dX0_tell_42 : decode cX0_tell 42 = .ok (.getfield 15, 3) := by decide +kernel
theorem dX0_tell_45 : decode cX0_tell 45 = .ok (.ireturn, 1) := by decide +kernel
theorem dX0_tell_46 : decode cX0_tell 46 = .ok (.aload_n 0, 1) := by decide +kernel
theorem dX0_tell_47 : decode cX0_tell 47 = .ok (.getfield 28, 3) := by decide +kernel
theorem dX0_tell_50 : decode cX0_tell 50 = .ok (.ireturn, 1) := by decide +kernel
theorem dX0_tell_51 : decode cX0_tell 51 = .ok (.aload_n 0, 1) := by decide +kernel
theorem dX0_tell_52 : decode cX0_tell 52 = .ok (.getfield 34, 3) := by decide +kernel
theorem dX0_tell_55 : decode cX0_tell 55 = .ok (.ifCond .eq 7, 3) := by decide +kernel
theorem dX0_tell_58 : decode cX0_tell 58 = .ok (.iconst 1, 1) := by decide +kernel
theorem dX0_tell_59 : decode cX0_tell 59 = .ok (.goto 4, 3) := by decide +kernel
theorem dX0_tell_62 : decode cX0_tell 62 = .ok (.iconst 0, 1) := by decide +kernel
theorem dX0_tell_63 : decode cX0_tell 63 = .ok (.ireturn, 1) := by decide +kernel
theorem dX0_tell_64 : decode cX0_tell 64 = .ok (.aload_n 0, 1) := by decide +kernel
theorem dX0_tell_65 : decode cX0_tell 65 = .ok (.getfield 28, 3) := by decide +kernel
theorem dX0_tell_68 : decode cX0_tell 68 = .ok (.bipush 20, 2) := by decide +kernel
theorem dX0_tell_70 : decode cX0_tell 70 = .ok (.if_icmp .ne 7, 3) := by decide +kernel
theorem dX0_tell_73 : decode cX0_tell 73 = .ok (.iconst 1, 1) := by decide +kernel
theorem dX0_tell_74 : decode cX0_tell 74 = .ok (.goto 4, 3) := by decide +kernel
theorem dX0_tell_77 : decode cX0_tell 77 = .ok (.iconst 0, 1) := by decide +kernel
theorem dX0_tell_78 : decode cX0_tell 78 = .ok (.ireturn, 1) := by decide +kernel
theorem dX0_tell_79 : decode cX0_tell 79 = .ok (.aload_n 0, 1) := by decide +kernel
theorem dX0_tell_80 : decode cX0_tell 80 = .ok (.getfield 31, 3) := by decide +kernel
theorem dX0_tell_83 : decode cX0_tell 83 = .ok (.ireturn, 1) := by decide +kernel
theorem dX1_init_0 : decode cX1_init 0 = .ok (.aload_n 0, 1) := by decide +kernel
theorem dX1_init_1 : decode cX1_init 1 = .ok (.invokespecial 3, 3) := by decide +kernel
theorem dX1_init_4 : decode cX1_init 4 = .ok (.aload_n 0, 1) := by decide +kernel
theorem dX1_init_5 : decode cX1_init 5 = .ok (.bipush 6, 2) := by decide +kernel
theorem dX1_init_7 : decode cX1_init 7 = .ok (.newarray .int, 2) := by decide +kernel
theorem dX1_init_9 : decode cX1_init 9 = .ok (.putfield 9, 3) := by decide +kernel
theorem dX1_init_12 : decode cX1_init 12 = .ok (.aload_n 0, 1) := by decide +kernel
theorem dX1_init_13 : decode cX1_init 13 = .ok (.bipush 6, 2) := by decide +kernel
theorem dX1_init_15 : decode cX1_init 15 = .ok (.newarray .int, 2) := by decide +kernel
theorem dX1_init_17 : decode cX1_init 17 = .ok (.putfield 15, 3) := by decide +kernel
theorem dX1_init_20 : decode cX1_init 20 = .ok (.aload_n 0, 1) := by decide +kernel
theorem dX1_init_21 : decode cX1_init 21 = .ok (.bipush (-9), 2) := by decide +kernel
theorem dX1_init_23 : decode cX1_init 23 = .ok (.putfield 18, 3) := by decide +kernel
theorem dX1_init_26 : decode cX1_init 26 = .ok (.return_, 1) := by decide +kernel
theorem dX1_begin_0 : decode cX1_begin 0 = .ok (.aload_n 0, 1) := by decide +kernel
theorem dX1_begin_1 : decode cX1_begin 1 = .ok (.bipush (-9), 2) := by decide +kernel
theorem dX1_begin_3 : decode cX1_begin 3 = .ok (.putfield 18, 3) := by decide +kernel
theorem dX1_begin_6 : decode cX1_begin 6 = .ok (.return_, 1) := by decide +kernel
theorem dX1_setBest_0 : decode cX1_setBest 0 = .ok (.iload_n 1, 1) := by decide +kernel
theorem dX1_setBest_1 : decode cX1_setBest 1 = .ok (.ifCond .lt 16, 3) := by decide +kernel
theorem dX1_setBest_4 : decode cX1_setBest 4 = .ok (.iload_n 1, 1) := by decide +kernel
theorem dX1_setBest_5 : decode cX1_setBest 5 = .ok (.bipush 6, 2) := by decide +kernel
theorem dX1_setBest_7 : decode cX1_setBest 7 = .ok (.if_icmp .ge 10, 3) := by decide +kernel
theorem dX1_setBest_10 : decode cX1_setBest 10 = .ok (.aload_n 0, 1) := by decide +kernel
theorem dX1_setBest_11 : decode cX1_setBest 11 = .ok (.getfield 15, 3) := by decide +kernel
theorem dX1_setBest_14 : decode cX1_setBest 14 = .ok (.iload_n 1, 1) := by decide +kernel
theorem dX1_setBest_15 : decode cX1_setBest 15 = .ok (.iload_n 2, 1) := by decide +kernel
theorem dX1_setBest_16 : decode cX1_setBest 16 = .ok (.iastore, 1) := by decide +kernel
theorem dX1_setBest_17 : decode cX1_setBest 17 = .ok (.return_, 1) := by decide +kernel
theorem dX1_layBest_0 : decode cX1_layBest 0 = .ok (.aload_n 2, 1) := by decide +kernel
theorem dX1_layBest_1 : decode cX1_layBest 1 = .ok (.iload_n 1, 1) := by decide +kernel
theorem dX1_layBest_2 : decode cX1_layBest 2 = .ok (.iconst 0, 1) := by decide +kernel
theorem dX1_layBest_3 : decode cX1_layBest 3 = .ok (.invokevirtual 22, 3) := by decide +kernel
theorem dX1_layBest_6 : decode cX1_layBest 6 = .ok (.iconst 0, 1) := by decide +kernel
theorem dX1_layBest_7 : decode cX1_layBest 7 = .ok (.istore_n 3, 1) := by decide +kernel
theorem dX1_layBest_8 : decode cX1_layBest 8 = .ok (.iload_n 3, 1) := by decide +kernel
theorem dX1_layBest_9 : decode cX1_layBest 9 = .ok (.iload_n 1, 1) := by decide +kernel
theorem dX1_layBest_10 : decode cX1_layBest 10 = .ok (.if_icmp .ge 26, 3) := by decide +kernel
theorem dX1_layBest_13 : decode cX1_layBest 13 = .ok (.iload_n 3, 1) := by decide +kernel
theorem dX1_layBest_14 : decode cX1_layBest 14 = .ok (.bipush 6, 2) := by decide +kernel
theorem dX1_layBest_16 : decode cX1_layBest 16 = .ok (.if_icmp .ge 20, 3) := by decide +kernel
theorem dX1_layBest_19 : decode cX1_layBest 19 = .ok (.aload_n 2, 1) := by decide +kernel
theorem dX1_layBest_20 : decode cX1_layBest 20 = .ok (.iload_n 3, 1) := by decide +kernel
theorem dX1_layBest_21 : decode cX1_layBest 21 = .ok (.aload_n 0, 1) := by decide +kernel
theorem dX1_layBest_22 : decode cX1_layBest 22 = .ok (.getfield 15, 3) := by decide +kernel
theorem dX1_layBest_25 : decode cX1_layBest 25 = .ok (.iload_n 3, 1) := by decide +kernel
theorem dX1_layBest_26 : decode cX1_layBest 26 = .ok (.iaload, 1) := by decide +kernel
theorem dX1_layBest_27 : decode cX1_layBest 27 = .ok (.invokevirtual 28, 3) := by decide +kernel
theorem dX1_layBest_30 : decode cX1_layBest 30 = .ok (.iinc 3 1, 3) := by decide +kernel
theorem dX1_layBest_33 : decode cX1_layBest 33 = .ok (.goto (-25), 3) := by decide +kernel
theorem dX1_layBest_36 : decode cX1_layBest 36 = .ok (.return_, 1) := by decide +kernel
theorem dX1_seek_0 : decode cX1_seek 0 = .ok (.iload_n 3, 1) := by decide +kernel
theorem dX1_seek_1 : decode cX1_seek 1 = .ok (.aload_n 1, 1) := by decide +kernel
theorem dX1_seek_2 : decode cX1_seek 2 = .ok (.getfield 31, 3) := by decide +kernel
theorem dX1_seek_5 : decode cX1_seek 5 = .ok (.if_icmp .ge 9, 3) := by decide +kernel
theorem dX1_seek_8 : decode cX1_seek 8 = .ok (.iload_n 3, 1) := by decide +kernel
theorem dX1_seek_9 : decode cX1_seek 9 = .ok (.bipush 6, 2) := by decide +kernel
theorem dX1_seek_11 : decode cX1_seek 11 = .ok (.if_icmp .lt 12, 3) := by decide +kernel
theorem dX1_seek_14 : decode cX1_seek 14 = .ok (.aload_n 0, 1) := by decide +kernel
theorem dX1_seek_15 : decode cX1_seek 15 = .ok (.aload_n 2, 1) := by decide +kernel
theorem dX1_seek_16 : decode cX1_seek 16 = .ok (.invokevirtual 36, 3) := by decide +kernel
theorem dX1_seek_19 : decode cX1_seek 19 = .ok (.invokevirtual 42, 3) := by decide +kernel
theorem dX1_seek_22 : decode cX1_seek 22 = .ok (.return_, 1) := by decide +kernel
theorem dX1_seek_23 : decode cX1_seek 23 = .ok (.aload_n 1, 1) := by decide +kernel
theorem dX1_seek_24 : decode cX1_seek 24 = .ok (.getfield 46, 3) := by decide +kernel
theorem dX1_seek_27 : decode cX1_seek 27 = .ok (.iload_n 3, 1) := by decide +kernel
theorem dX1_seek_28 : decode cX1_seek 28 = .ok (.aaload, 1) := by decide +kernel
theorem dX1_seek_29 : decode cX1_seek 29 = .ok (.getfield 50, 3) := by decide +kernel
theorem dX1_seek_32 : decode cX1_seek 32 = .ok (.ifCond .eq 20, 3) := by decide +kernel
theorem dX1_seek_35 : decode cX1_seek 35 = .ok (.aload_n 0, 1) := by decide +kernel
theorem dX1_seek_36 : decode cX1_seek 36 = .ok (.getfield 9, 3) := by decide +kernel
theorem dX1_seek_39 : decode cX1_seek 39 = .ok (.iload_n 3, 1) := by decide +kernel
theorem dX1_seek_40 : decode cX1_seek 40 = .ok (.iconst 0, 1) := by decide +kernel
theorem dX1_seek_41 : decode cX1_seek 41 = .ok (.iastore, 1) := by decide +kernel
theorem dX1_seek_42 : decode cX1_seek 42 = .ok (.aload_n 0, 1) := by decide +kernel
theorem dX1_seek_43 : decode cX1_seek 43 = .ok (.aload_n 1, 1) := by decide +kernel
theorem dX1_seek_44 : decode cX1_seek 44 = .ok (.aload_n 2, 1) := by decide +kernel
theorem dX1_seek_45 : decode cX1_seek 45 = .ok (.iload_n 3, 1) := by decide +kernel
theorem dX1_seek_46 : decode cX1_seek 46 = .ok (.iconst 1, 1) := by decide +kernel
theorem dX1_seek_47 : decode cX1_seek 47 = .ok (.iadd, 1) := by decide +kernel
theorem dX1_seek_48 : decode cX1_seek 48 = .ok (.invokevirtual 56, 3) := by decide +kernel
theorem dX1_seek_51 : decode cX1_seek 51 = .ok (.return_, 1) := by decide +kernel
theorem dX1_seek_52 : decode cX1_seek 52 = .ok (.bipush (-9), 2) := by decide +kernel
theorem dX1_seek_54 : decode cX1_seek 54 = .ok (.istore 4, 2) := by decide +kernel
theorem dX1_seek_56 : decode cX1_seek 56 = .ok (.iconst 0, 1) := by decide +kernel
theorem dX1_seek_57 : decode cX1_seek 57 = .ok (.istore 5, 2) := by decide +kernel
theorem dX1_seek_59 : decode cX1_seek 59 = .ok (.iload 5, 2) := by decide +kernel
theorem dX1_seek_61 : decode cX1_seek 61 = .ok (.bipush 7, 2) := by decide +kernel
theorem dX1_seek_63 : decode cX1_seek 63 = .ok (.if_icmp .ge 69, 3) := by decide +kernel
theorem dX1_seek_66 : decode cX1_seek 66 = .ok (.aload_n 1, 1) := by decide +kernel
theorem dX1_seek_67 : decode cX1_seek 67 = .ok (.iload_n 3, 1) := by decide +kernel
theorem dX1_seek_68 : decode cX1_seek 68 = .ok (.iload 5, 2) := by decide +kernel
theorem dX1_seek_70 : decode cX1_seek 70 = .ok (.invokevirtual 60, 3) := by decide +kernel
theorem dX1_seek_73 : decode cX1_seek 73 = .ok (.istore 6, 2) := by decide +kernel
theorem dX1_seek_75 : decode cX1_seek 75 = .ok (.iload 6, 2) := by decide +kernel
theorem dX1_seek_77 : decode cX1_seek 77 = .ok (.bipush (-9), 2) := by decide +kernel
theorem dX1_seek_79 : decode cX1_seek 79 = .ok (.if_icmp .eq 47, 3) := by decide +kernel
theorem dX1_seek_82 : decode cX1_seek 82 = .ok (.iload 6, 2) := by decide +kernel
theorem dX1_seek_84 : decode cX1_seek 84 = .ok (.iload 4, 2) := by decide +kernel
theorem dX1_seek_86 : decode cX1_seek 86 = .ok (.if_icmp .eq 40, 3) := by decide +kernel
theorem dX1_seek_89 : decode cX1_seek 89 = .ok (.iload 6, 2) := by decide +kernel
theorem dX1_seek_91 : decode cX1_seek 91 = .ok (.istore 4, 2) := by decide +kernel
theorem dX1_seek_93 : decode cX1_seek 93 = .ok (.aload_n 0, 1) := by decide +kernel
theorem dX1_seek_94 : decode cX1_seek 94 = .ok (.getfield 9, 3) := by decide +kernel
theorem dX1_seek_97 : decode cX1_seek 97 = .ok (.iload_n 3, 1) := by decide +kernel
theorem dX1_seek_98 : decode cX1_seek 98 = .ok (.iload 5, 2) := by decide +kernel
theorem dX1_seek_100 : decode cX1_seek 100 = .ok (.iastore, 1) := by decide +kernel
theorem dX1_seek_101 : decode cX1_seek 101 = .ok (.aload_n 2, 1) := by decide +kernel
theorem dX1_seek_102 : decode cX1_seek 102 = .ok (.iload_n 3, 1) := by decide +kernel
theorem dX1_seek_103 : decode cX1_seek 103 = .ok (.iconst 2, 1) := by decide +kernel
theorem dX1_seek_104 : decode cX1_seek 104 = .ok (.iload_n 3, 1) := by decide +kernel
theorem dX1_seek_105 : decode cX1_seek 105 = .ok (.imul, 1) := by decide +kernel
theorem dX1_seek_106 : decode cX1_seek 106 = .ok (.iload 6, 2) := by decide +kernel
theorem dX1_seek_108 : decode cX1_seek 108 = .ok (.iadd, 1) := by decide +kernel
theorem dX1_seek_109 : decode cX1_seek 109 = .ok (.invokevirtual 64, 3) := by decide +kernel
theorem dX1_seek_112 : decode cX1_seek 112 = .ok (.aload_n 0, 1) := by decide +kernel
theorem dX1_seek_113 : decode cX1_seek 113 = .ok (.aload_n 1, 1) := by decide +kernel
theorem dX1_seek_114 : decode cX1_seek 114 = .ok (.aload_n 2, 1) := by decide +kernel
theorem dX1_seek_115 : decode cX1_seek 115 = .ok (.iload_n 3, 1) := by decide +kernel
theorem dX1_seek_116 : decode cX1_seek 116 = .ok (.iconst 1, 1) := by decide +kernel
theorem dX1_seek_117 : decode cX1_seek 117 = .ok (.iadd, 1) := by decide +kernel
theorem dX1_seek_118 : decode cX1_seek 118 = .ok (.invokevirtual 56, 3) := by decide +kernel
theorem dX1_seek_121 : decode cX1_seek 121 = .ok (.aload_n 2, 1) := by decide +kernel
theorem dX1_seek_122 : decode cX1_seek 122 = .ok (.iload_n 3, 1) := by decide +kernel
theorem dX1_seek_123 : decode cX1_seek 123 = .ok (.invokevirtual 67, 3) := by decide +kernel
theorem dX1_seek_126 : decode cX1_seek 126 = .ok (.iinc 5 1, 3) := by decide +kernel
theorem dX1_seek_129 : decode cX1_seek 129 = .ok (.goto (-70), 3) := by decide +kernel
theorem dX1_seek_132 : decode cX1_seek 132 = .ok (.return_, 1) := by decide +kernel
theorem dX1_take_0 : decode cX1_take 0 = .ok (.aload_n 0, 1) := by decide +kernel
theorem dX1_take_1 : decode cX1_take 1 = .ok (.getfield 18, 3) := by decide +kernel
theorem dX1_take_4 : decode cX1_take 4 = .ok (.bipush (-9), 2) := by decide +kernel
theorem dX1_take_6 : decode cX1_take 6 = .ok (.if_icmp .eq 11, 3) := by decide +kernel
theorem dX1_take_9 : decode cX1_take 9 = .ok (.iload_n 1, 1) := by decide +kernel
theorem dX1_take_10 : decode cX1_take 10 = .ok (.aload_n 0, 1) := by decide +kernel
theorem dX1_take_11 : decode cX1_take 11 = .ok (.getfield 18, 3) := by decide +kernel
theorem dX1_take_14 : decode cX1_take 14 = .ok (.if_icmp .ge 23, 3) := by decide +kernel
theorem dX1_take_17 : decode cX1_take 17 = .ok (.aload_n 0, 1) := by decide +kernel
theorem dX1_take_18 : decode cX1_take 18 = .ok (.iload_n 1, 1) := by decide +kernel
theorem dX1_take_19 : decode cX1_take 19 = .ok (.putfield 18, 3) := by decide +kernel
theorem dX1_take_22 : decode cX1_take 22 = .ok (.aload_n 0, 1) := by decide +kernel
theorem dX1_take_23 : decode cX1_take 23 = .ok (.getfield 9, 3) := by decide +kernel
theorem dX1_take_26 : decode cX1_take 26 = .ok (.iconst 0, 1) := by decide +kernel
theorem dX1_take_27 : decode cX1_take 27 = .ok (.aload_n 0, 1) := by decide +kernel
theorem dX1_take_28 : decode cX1_take 28 = .ok (.getfield 15, 3) := by decide +kernel
theorem dX1_take_31 : decode cX1_take 31 = .ok (.iconst 0, 1) := by decide +kernel
theorem dX1_take_32 : decode cX1_take 32 = .ok (.bipush 6, 2) := by decide +kernel
theorem dX1_take_34 : decode cX1_take 34 = .ok (.invokestatic 70, 3) := by decide +kernel
theorem dX1_take_37 : decode cX1_take 37 = .ok (.return_, 1) := by decide +kernel
theorem dX2_init_0 : decode cX2_init 0 = .ok (.aload_n 0, 1) := by decide +kernel
theorem dX2_init_1 : decode cX2_init 1 = .ok (.invokespecial 3, 3) := by decide +kernel
theorem dX2_init_4 : decode cX2_init 4 = .ok (.aload_n 0, 1) := by decide +kernel
theorem dX2_init_5 : decode cX2_init 5 = .ok (.bipush 21, 2) := by decide +kernel
theorem dX2_init_7 : decode cX2_init 7 = .ok (.newarray .long, 2) := by decide +kernel
theorem dX2_init_9 : decode cX2_init 9 = .ok (.putfield 9, 3) := by decide +kernel
theorem dX2_init_12 : decode cX2_init 12 = .ok (.aload_n 0, 1) := by decide +kernel
theorem dX2_init_13 : decode cX2_init 13 = .ok (.bipush 21, 2) := by decide +kernel
theorem dX2_init_15 : decode cX2_init 15 = .ok (.newarray .long, 2) := by decide +kernel
theorem dX2_init_17 : decode cX2_init 17 = .ok (.putfield 15, 3) := by decide +kernel
theorem dX2_init_20 : decode cX2_init 20 = .ok (.return_, 1) := by decide +kernel
theorem dX2_begin_0 : decode cX2_begin 0 = .ok (.aload_n 0, 1) := by decide +kernel
theorem dX2_begin_1 : decode cX2_begin 1 = .ok (.getfield 9, 3) := by decide +kernel
theorem dX2_begin_4 : decode cX2_begin 4 = .ok (.lconst 0, 1) := by decide +kernel
theorem dX2_begin_5 : decode cX2_begin 5 = .ok (.invokestatic 18, 3) := by decide +kernel
theorem dX2_begin_8 : decode cX2_begin 8 = .ok (.aload_n 0, 1) := by decide +kernel
theorem dX2_begin_9 : decode cX2_begin 9 = .ok (.getfield 15, 3) := by decide +kernel
theorem dX2_begin_12 : decode cX2_begin 12 = .ok (.lconst 0, 1) := by decide +kernel
theorem dX2_begin_13 : decode cX2_begin 13 = .ok (.invokestatic 18, 3) := by decide +kernel
theorem dX2_begin_16 : decode cX2_begin 16 = .ok (.iload_n 1, 1) := by decide +kernel
theorem dX2_begin_17 : decode cX2_begin 17 = .ok (.ifCond .lt 16, 3) := by decide +kernel
theorem dX2_begin_20 : decode cX2_begin 20 = .ok (.iload_n 1, 1) := by decide +kernel
theorem dX2_begin_21 : decode cX2_begin 21 = .ok (.bipush 21, 2) := by decide +kernel
theorem dX2_begin_23 : decode cX2_begin 23 = .ok (.if_icmp .ge 10, 3) := by decide +kernel
theorem dX2_begin_26 : decode cX2_begin 26 = .ok (.aload_n 0, 1) := by decide +kernel
theorem dX2_begin_27 : decode cX2_begin 27 = .ok (.getfield 9, 3) := by decide +kernel
theorem dX2_begin_30 : decode cX2_begin 30 = .ok (.iload_n 1, 1) := by decide +kernel
theorem dX2_begin_31 : decode cX2_begin 31 = .ok (.lconst 1, 1) := by decide +kernel
theorem dX2_begin_32 : decode cX2_begin 32 = .ok (.lastore, 1) := by decide +kernel
theorem dX2_begin_33 : decode cX2_begin 33 = .ok (.return_, 1) := by decide +kernel
theorem dX2_spread_0 : decode cX2_spread 0 = .ok (.iconst 0, 1) := by decide +kernel
theorem dX2_spread_1 : decode cX2_spread 1 = .ok (.istore 5, 2) := by decide +kernel
theorem dX2_spread_3 : decode cX2_spread 3 = .ok (.iload 5, 2) := by decide +kernel
theorem dX2_spread_5 : decode cX2_spread 5 = .ok (.bipush 21, 2) := by decide +kernel
theorem dX2_spread_7 : decode cX2_spread 7 = .ok (.if_icmp .ge 43, 3) := by decide +kernel
theorem dX2_spread_10 : decode cX2_spread 10 = .ok (.iload_n 1, 1) := by decide +kernel
theorem dX2_spread_11 : decode cX2_spread 11 = .ok (.iload 5, 2) := by decide +kernel
theorem dX2_spread_13 : decode cX2_spread 13 = .ok (.iload_n 2, 1) := by decide +kernel
theorem dX2_spread_14 : decode cX2_spread 14 = .ok (.invokestatic 24, 3) := by decide +kernel
theorem dX2_spread_17 : decode cX2_spread 17 = .ok (.istore 6, 2) := by decide +kernel
theorem dX2_spread_19 : decode cX2_spread 19 = .ok (.iload 6, 2) := by decide +kernel
theorem dX2_spread_21 : decode cX2_spread 21 = .ok (.iconst (-1), 1) := by decide +kernel
theorem dX2_spread_22 : decode cX2_spread 22 = .ok (.if_icmp .eq 22, 3) := by decide +kernel
theorem dX2_spread_25 : decode cX2_spread 25 = .ok (.aload_n 0, 1) := by decide +kernel
theorem dX2_spread_26 : decode cX2_spread 26 = .ok (.getfield 15, 3) := by decide +kernel
theorem dX2_spread_29 : decode cX2_spread 29 = .ok (.iload 6, 2) := by decide +kernel
theorem dX2_spread_31 : decode cX2_spread 31 = .ok (.dup2, 1) := by decide +kernel
theorem dX2_spread_32 : decode cX2_spread 32 = .ok (.laload, 1) := by decide +kernel
theorem dX2_spread_33 : decode cX2_spread 33 = .ok (.aload_n 0, 1) := by decide +kernel
theorem dX2_spread_34 : decode cX2_spread 34 = .ok (.getfield 9, 3) := by decide +kernel
theorem dX2_spread_37 : decode cX2_spread 37 = .ok (.iload 5, 2) := by decide +kernel
theorem dX2_spread_39 : decode cX2_spread 39 = .ok (.laload, 1) := by decide +kernel
theorem dX2_spread_40 : decode cX2_spread 40 = .ok (.lload_n 3, 1) := by decide +kernel
theorem dX2_spread_41 : decode cX2_spread 41 = .ok (.lmul, 1) := by decide +kernel
theorem dX2_spread_42 : decode cX2_spread 42 = .ok (.ladd, 1) := by decide +kernel
theorem dX2_spread_43 : decode cX2_spread 43 = .ok (.lastore, 1) := by decide +kernel
theorem dX2_spread_44 : decode cX2_spread 44 = .ok (.iinc 5 1, 3) := by decide +kernel
theorem dX2_spread_47 : decode cX2_spread 47 = .ok (.goto (-44), 3) := by decide +kernel
theorem dX2_spread_50 : decode cX2_spread 50 = .ok (.return_, 1) := by decide +kernel
theorem dX2_turn_0 : decode cX2_turn 0 = .ok (.aload_n 0, 1) := by decide +kernel
theorem dX2_turn_1 : decode cX2_turn 1 = .ok (.getfield 15, 3) := by decide +kernel
theorem dX2_turn_4 : decode cX2_turn 4 = .ok (.iconst 0, 1) := by decide +kernel
theorem dX2_turn_5 : decode cX2_turn 5 = .ok (.aload_n 0, 1) := by decide +kernel
theorem dX2_turn_6 : decode cX2_turn 6 = .ok (.getfield 9, 3) := by decide +kernel
theorem dX2_turn_9 : decode cX2_turn 9 = .ok (.iconst 0, 1) := by decide +kernel
theorem dX2_turn_10 : decode cX2_turn 10 = .ok (.bipush 21, 2) := by decide +kernel
theorem dX2_turn_12 : decode cX2_turn 12 = .ok (.invokestatic 28, 3) := by decide +kernel
theorem dX2_turn_15 : decode cX2_turn 15 = .ok (.aload_n 0, 1) := by decide +kernel
theorem dX2_turn_16 : decode cX2_turn 16 = .ok (.getfield 15, 3) := by decide +kernel
theorem dX2_turn_19 : decode cX2_turn 19 = .ok (.lconst 0, 1) := by decide +kernel
theorem dX2_turn_20 : decode cX2_turn 20 = .ok (.invokestatic 18, 3) := by decide +kernel
theorem dX2_turn_23 : decode cX2_turn 23 = .ok (.return_, 1) := by decide +kernel
theorem dX3_init_0 : decode cX3_init 0 = .ok (.aload_n 0, 1) := by decide +kernel
theorem dX3_init_1 : decode cX3_init 1 = .ok (.invokespecial 3, 3) := by decide +kernel
theorem dX3_init_4 : decode cX3_init 4 = .ok (.aload_n 0, 1) := by decide +kernel
theorem dX3_init_5 : decode cX3_init 5 = .ok (.bipush 6, 2) := by decide +kernel
theorem dX3_init_7 : decode cX3_init 7 = .ok (.newarray .int, 2) := by decide +kernel
theorem dX3_init_9 : decode cX3_init 9 = .ok (.putfield 9, 3) := by decide +kernel
theorem dX3_init_12 : decode cX3_init 12 = .ok (.aload_n 0, 1) := by decide +kernel
theorem dX3_init_13 : decode cX3_init 13 = .ok (.bipush 6, 2) := by decide +kernel
theorem dX3_init_15 : decode cX3_init 15 = .ok (.newarray .int, 2) := by decide +kernel
theorem dX3_init_17 : decode cX3_init 17 = .ok (.putfield 15, 3) := by decide +kernel
theorem dX3_init_20 : decode cX3_init 20 = .ok (.return_, 1) := by decide +kernel
theorem dX3_clear_0 : decode cX3_clear 0 = .ok (.aload_n 0, 1) := by decide +kernel
theorem dX3_clear_1 : decode cX3_clear 1 = .ok (.iconst 0, 1) := by decide +kernel
theorem dX3_clear_2 : decode cX3_clear 2 = .ok (.putfield 18, 3) := by decide +kernel
theorem dX3_clear_5 : decode cX3_clear 5 = .ok (.return_, 1) := by decide +kernel
theorem dX3_enter_0 : decode cX3_enter 0 = .ok (.aload_n 0, 1) := by decide +kernel
theorem dX3_enter_1 : decode cX3_enter 1 = .ok (.getfield 18, 3) := by decide +kernel
theorem dX3_enter_4 : decode cX3_enter 4 = .ok (.bipush 6, 2) := by decide +kernel
theorem dX3_enter_6 : decode cX3_enter 6 = .ok (.if_icmp .lt 4, 3) := by decide +kernel
theorem dX3_enter_9 : decode cX3_enter 9 = .ok (.return_, 1) := by decide +kernel
theorem dX3_enter_10 : decode cX3_enter 10 = .ok (.aload_n 0, 1) := by decide +kernel
theorem dX3_enter_11 : decode cX3_enter 11 = .ok (.getfield 18, 3) := by decide +kernel
theorem dX3_enter_14 : decode cX3_enter 14 = .ok (.istore_n 3, 1) := by decide +kernel
theorem dX3_enter_15 : decode cX3_enter 15 = .ok (.iload_n 3, 1) := by decide +kernel
theorem dX3_enter_16 : decode cX3_enter 16 = .ok (.ifCond .le 49, 3) := by decide +kernel
theorem dX3_enter_19 : decode cX3_enter 19 = .ok (.aload_n 0, 1) := by decide +kernel
theorem dX3_enter_20 : decode cX3_enter 20 = .ok (.iload_n 3, 1) := by decide +kernel
theorem dX3_enter_21 : decode cX3_enter 21 = .ok (.iconst 1, 1) := by decide +kernel
theorem dX3_enter_22 : decode cX3_enter 22 = .ok (.isub, 1) := by decide +kernel
theorem dX3_enter_23 : decode cX3_enter 23 = .ok (.iload_n 1, 1) := by decide +kernel
theorem dX3_enter_24 : decode cX3_enter 24 = .ok (.iload_n 2, 1) := by decide +kernel
theorem dX3_enter_25 : decode cX3_enter 25 = .ok (.invokevirtual 22, 3) := by decide +kernel
theorem dX3_enter_28 : decode cX3_enter 28 = .ok (.ifCond .eq 37, 3) := by decide +kernel
theorem dX3_enter_31 : decode cX3_enter 31 = .ok (.aload_n 0, 1) := by decide +kernel
theorem dX3_enter_32 : decode cX3_enter 32 = .ok (.getfield 9, 3) := by decide +kernel
theorem dX3_enter_35 : decode cX3_enter 35 = .ok (.iload_n 3, 1) := by decide +kernel
theorem dX3_enter_36 : decode cX3_enter 36 = .ok (.aload_n 0, 1) := by decide +kernel
theorem dX3_enter_37 : decode cX3_enter 37 = .ok (.getfield 9, 3) := by decide +kernel
theorem dX3_enter_40 : decode cX3_enter 40 = .ok (.iload_n 3, 1) := by decide +kernel
theorem dX3_enter_41 : decode cX3_enter 41 = .ok (.iconst 1, 1) := by decide +kernel
theorem dX3_enter_42 : decode cX3_enter 42 = .ok (.isub, 1) := by decide +kernel
theorem dX3_enter_43 : decode cX3_enter 43 = .ok (.iaload, 1) := by decide +kernel
theorem dX3_enter_44 : decode cX3_enter 44 = .ok (.iastore, 1) := by decide +kernel
theorem dX3_enter_45 : decode cX3_enter 45 = .ok (.aload_n 0, 1) := by decide +kernel
theorem dX3_enter_46 : decode cX3_enter 46 = .ok (.getfield 15, 3) := by decide +kernel
theorem dX3_enter_49 : decode cX3_enter 49 = .ok (.iload_n 3, 1) := by decide +kernel
theorem dX3_enter_50 : decode cX3_enter 50 = .ok (.aload_n 0, 1) := by decide +kernel
theorem dX3_enter_51 : decode cX3_enter 51 = .ok (.getfield 15, 3) := by decide +kernel
theorem dX3_enter_54 : decode cX3_enter 54 = .ok (.iload_n 3, 1) := by decide +kernel
theorem dX3_enter_55 : decode cX3_enter 55 = .ok (.iconst 1, 1) := by decide +kernel
theorem dX3_enter_56 : decode cX3_enter 56 = .ok (.isub, 1) := by decide +kernel
theorem dX3_enter_57 : decode cX3_enter 57 = .ok (.iaload, 1) := by decide +kernel
theorem dX3_enter_58 : decode cX3_enter 58 = .ok (.iastore, 1) := by decide +kernel
theorem dX3_enter_59 : decode cX3_enter 59 = .ok (.iinc 3 (-1), 3) := by decide +kernel
theorem dX3_enter_62 : decode cX3_enter 62 = .ok (.goto (-47), 3) := by decide +kernel
theorem dX3_enter_65 : decode cX3_enter 65 = .ok (.aload_n 0, 1) := by decide +kernel
theorem dX3_enter_66 : decode cX3_enter 66 = .ok (.getfield 9, 3) := by decide +kernel
theorem dX3_enter_69 : decode cX3_enter 69 = .ok (.iload_n 3, 1) := by decide +kernel
theorem dX3_enter_70 : decode cX3_enter 70 = .ok (.iload_n 1, 1) := by decide +kernel
theorem dX3_enter_71 : decode cX3_enter 71 = .ok (.iastore, 1) := by decide +kernel
theorem dX3_enter_72 : decode cX3_enter 72 = .ok (.aload_n 0, 1) := by decide +kernel
theorem dX3_enter_73 : decode cX3_enter 73 = .ok (.getfield 15, 3) := by decide +kernel
theorem dX3_enter_76 : decode cX3_enter 76 = .ok (.iload_n 3, 1) := by decide +kernel
theorem dX3_enter_77 : decode cX3_enter 77 = .ok (.iload_n 2, 1) := by decide +kernel
theorem dX3_enter_78 : decode cX3_enter 78 = .ok (.iastore, 1) := by decide +kernel
theorem dX3_enter_79 : decode cX3_enter 79 = .ok (.aload_n 0, 1) := by decide +kernel
theorem dX3_enter_80 : decode cX3_enter 80 = .ok (.dup, 1) := by decide +kernel
theorem dX3_enter_81 : decode cX3_enter 81 = .ok (.getfield 18, 3) := by decide +kernel
theorem dX3_enter_84 : decode cX3_enter 84 = .ok (.iconst 1, 1) := by decide +kernel
theorem dX3_enter_85 : decode cX3_enter 85 = .ok (.iadd, 1) := by decide +kernel
theorem dX3_enter_86 : decode cX3_enter 86 = .ok (.putfield 18, 3) := by decide +kernel
theorem dX3_enter_89 : decode cX3_enter 89 = .ok (.return_, 1) := by decide +kernel
theorem dX3_isBehind_0 : decode cX3_isBehind 0 = .ok (.aload_n 0, 1) := by decide +kernel
theorem dX3_isBehind_1 : decode cX3_isBehind 1 = .ok (.getfield 15, 3) := by decide +kernel
theorem dX3_isBehind_4 : decode cX3_isBehind 4 = .ok (.iload_n 1, 1) := by decide +kernel
theorem dX3_isBehind_5 : decode cX3_isBehind 5 = .ok (.iaload, 1) := by decide +kernel
theorem dX3_isBehind_6 : decode cX3_isBehind 6 = .ok (.iload_n 3, 1) := by decide +kernel
theorem dX3_isBehind_7 : decode cX3_isBehind 7 = .ok (.if_icmp .gt 23, 3) := by decide +kernel
theorem dX3_isBehind_10 : decode cX3_isBehind 10 = .ok (.aload_n 0, 1) := by decide +kernel
theorem dX3_isBehind_11 : decode cX3_isBehind 11 = .ok (.getfield 15, 3) := by decide +kernel
theorem dX3_isBehind_14 : decode cX3_isBehind 14 = .ok (.iload_n 1, 1) := by decide +kernel
theorem dX3_isBehind_15 : decode cX3_isBehind 15 = .ok (.iaload, 1) := by decide +kernel
theorem dX3_isBehind_16 : decode cX3_isBehind 16 = .ok (.iload_n 3, 1) := by decide +kernel
theorem dX3_isBehind_17 : decode cX3_isBehind 17 = .ok (.if_icmp .ne 17, 3) := by decide +kernel
theorem dX3_isBehind_20 : decode cX3_isBehind 20 = .ok (.aload_n 0, 1) := by decide +kernel
theorem dX3_isBehind_21 : decode cX3_isBehind 21 = .ok (.getfield 9, 3) := by decide +kernel
theorem dX3_isBehind_24 : decode cX3_isBehind 24 = .ok (.iload_n 1, 1) := by decide +kernel
theorem dX3_isBehind_25 : decode cX3_isBehind 25 = .ok (.iaload, 1) := by decide +kernel
theorem dX3_isBehind_26 : decode cX3_isBehind 26 = .ok (.iload_n 2, 1) := by decide +kernel
theorem dX3_isBehind_27 : decode cX3_isBehind 27 = .ok (.if_icmp .le 7, 3) := by decide +kernel
theorem dX3_isBehind_30 : decode cX3_isBehind 30 = .ok (.iconst 1, 1) := by decide +kernel
theorem dX3_isBehind_31 : decode cX3_isBehind 31 = .ok (.goto 4, 3) := by decide +kernel
theorem dX3_isBehind_34 : decode cX3_isBehind 34 = .ok (.iconst 0, 1) := by decide +kernel
theorem dX3_isBehind_35 : decode cX3_isBehind 35 = .ok (.ireturn, 1) := by decide +kernel
theorem dX3_leave_0 : decode cX3_leave 0 = .ok (.iconst 0, 1) := by decide +kernel
theorem dX3_leave_1 : decode cX3_leave 1 = .ok (.istore_n 2, 1) := by decide +kernel
theorem dX3_leave_2 : decode cX3_leave 2 = .ok (.iconst 0, 1) := by decide +kernel
theorem dX3_leave_3 : decode cX3_leave 3 = .ok (.istore_n 3, 1) := by decide +kernel
theorem dX3_leave_4 : decode cX3_leave 4 = .ok (.iload_n 3, 1) := by decide +kernel
theorem dX3_leave_5 : decode cX3_leave 5 = .ok (.aload_n 0, 1) := by decide +kernel
theorem dX3_leave_6 : decode cX3_leave 6 = .ok (.getfield 18, 3) := by decide +kernel
theorem dX3_leave_9 : decode cX3_leave 9 = .ok (.if_icmp .ge 46, 3) := by decide +kernel
theorem dX3_leave_12 : decode cX3_leave 12 = .ok (.aload_n 0, 1) := by decide +kernel
theorem dX3_leave_13 : decode cX3_leave 13 = .ok (.getfield 9, 3) := by decide +kernel
theorem dX3_leave_16 : decode cX3_leave 16 = .ok (.iload_n 3, 1) := by decide +kernel
theorem dX3_leave_17 : decode cX3_leave 17 = .ok (.iaload, 1) := by decide +kernel
theorem dX3_leave_18 : decode cX3_leave 18 = .ok (.iload_n 1, 1) := by decide +kernel
theorem dX3_leave_19 : decode cX3_leave 19 = .ok (.if_icmp .eq 30, 3) := by decide +kernel
theorem dX3_leave_22 : decode cX3_leave 22 = .ok (.aload_n 0, 1) := by decide +kernel
theorem dX3_leave_23 : decode cX3_leave 23 = .ok (.getfield 9, 3) := by decide +kernel
theorem dX3_leave_26 : decode cX3_leave 26 = .ok (.iload_n 2, 1) := by decide +kernel
theorem dX3_leave_27 : decode cX3_leave 27 = .ok (.aload_n 0, 1) := by decide +kernel
theorem dX3_leave_28 : decode cX3_leave 28 = .ok (.getfield 9, 3) := by decide +kernel
theorem dX3_leave_31 : decode cX3_leave 31 = .ok (.iload_n 3, 1) := by decide +kernel
theorem dX3_leave_32 : decode cX3_leave 32 = .ok (.iaload, 1) := by decide +kernel
theorem dX3_leave_33 : decode cX3_leave 33 = .ok (.iastore, 1) := by decide +kernel
theorem dX3_leave_34 : decode cX3_leave 34 = .ok (.aload_n 0, 1) := by decide +kernel
theorem dX3_leave_35 : decode cX3_leave 35 = .ok (.getfield 15, 3) := by decide +kernel
theorem dX3_leave_38 : decode cX3_leave 38 = .ok (.iload_n 2, 1) := by decide +kernel
theorem dX3_leave_39 : decode cX3_leave 39 = .ok (.aload_n 0, 1) := by decide +kernel
theorem dX3_leave_40 : decode cX3_leave 40 = .ok (.getfield 15, 3) := by decide +kernel
theorem dX3_leave_43 : decode cX3_leave 43 = .ok (.iload_n 3, 1) := by decide +kernel
theorem dX3_leave_44 : decode cX3_leave 44 = .ok (.iaload, 1) := by decide +kernel
theorem dX3_leave_45 : decode cX3_leave 45 = .ok (.iastore, 1) := by decide +kernel
theorem dX3_leave_46 : decode cX3_leave 46 = .ok (.iinc 2 1, 3) := by decide +kernel
theorem dX3_leave_49 : decode cX3_leave 49 = .ok (.iinc 3 1, 3) := by decide +kernel
theorem dX3_leave_52 : decode cX3_leave 52 = .ok (.goto (-48), 3) := by decide +kernel
theorem dX3_leave_55 : decode cX3_leave 55 = .ok (.aload_n 0, 1) := by decide +kernel
theorem dX3_leave_56 : decode cX3_leave 56 = .ok (.iload_n 2, 1) := by decide +kernel
theorem dX3_leave_57 : decode cX3_leave 57 = .ok (.putfield 18, 3) := by decide +kernel
theorem dX3_leave_60 : decode cX3_leave 60 = .ok (.return_, 1) := by decide +kernel
theorem dX3_bits_0 : decode cX3_bits 0 = .ok (.iconst 0, 1) := by decide +kernel
theorem dX3_bits_1 : decode cX3_bits 1 = .ok (.istore_n 1, 1) := by decide +kernel
theorem dX3_bits_2 : decode cX3_bits 2 = .ok (.iconst 0, 1) := by decide +kernel
theorem dX3_bits_3 : decode cX3_bits 3 = .ok (.istore_n 2, 1) := by decide +kernel
theorem dX3_bits_4 : decode cX3_bits 4 = .ok (.iload_n 2, 1) := by decide +kernel
theorem dX3_bits_5 : decode cX3_bits 5 = .ok (.aload_n 0, 1) := by decide +kernel
theorem dX3_bits_6 : decode cX3_bits 6 = .ok (.getfield 18, 3) := by decide +kernel
theorem dX3_bits_9 : decode cX3_bits 9 = .ok (.if_icmp .ge 20, 3) := by decide +kernel
theorem dX3_bits_12 : decode cX3_bits 12 = .ok (.iload_n 1, 1) := by decide +kernel
theorem dX3_bits_13 : decode cX3_bits 13 = .ok (.iconst 1, 1) := by decide +kernel
theorem dX3_bits_14 : decode cX3_bits 14 = .ok (.aload_n 0, 1) := by decide +kernel
theorem dX3_bits_15 : decode cX3_bits 15 = .ok (.getfield 9, 3) := by decide +kernel
theorem dX3_bits_18 : decode cX3_bits 18 = .ok (.iload_n 2, 1) := by decide +kernel
theorem dX3_bits_19 : decode cX3_bits 19 = .ok (.iaload, 1) := by decide +kernel
theorem dX3_bits_20 : decode cX3_bits 20 = .ok (.ishl, 1) := by decide +kernel
theorem dX3_bits_21 : decode cX3_bits 21 = .ok (.ior, 1) := by decide +kernel
theorem dX3_bits_22 : decode cX3_bits 22 = .ok (.istore_n 1, 1) := by decide +kernel
theorem dX3_bits_23 : decode cX3_bits 23 = .ok (.iinc 2 1, 3) := by decide +kernel
theorem dX3_bits_26 : decode cX3_bits 26 = .ok (.goto (-22), 3) := by decide +kernel
theorem dX3_bits_29 : decode cX3_bits 29 = .ok (.iload_n 1, 1) := by decide +kernel
theorem dX3_bits_30 : decode cX3_bits 30 = .ok (.ireturn, 1) := by decide +kernel
theorem dX3_unevenness_0 : decode cX3_unevenness 0 = .ok (.iconst 0, 1) := by decide +kernel
theorem dX3_unevenness_1 : decode cX3_unevenness 1 = .ok (.istore_n 1, 1) := by decide +kernel
theorem dX3_unevenness_2 : decode cX3_unevenness 2 = .ok (.iconst 1, 1) := by decide +kernel
theorem dX3_unevenness_3 : decode cX3_unevenness 3 = .ok (.istore_n 2, 1) := by decide +kernel
theorem dX3_unevenness_4 : decode cX3_unevenness 4 = .ok (.iload_n 2, 1) := by decide +kernel
theorem dX3_unevenness_5 : decode cX3_unevenness 5 = .ok (.aload_n 0, 1) := by decide +kernel
theorem dX3_unevenness_6 : decode cX3_unevenness 6 = .ok (.getfield 18, 3) := by decide +kernel
theorem dX3_unevenness_9 : decode cX3_unevenness 9 = .ok (.if_icmp .ge 32, 3) := by decide +kernel
theorem dX3_unevenness_12 : decode cX3_unevenness 12 = .ok (.iload_n 1, 1) := by decide +kernel
theorem dX3_unevenness_13 : decode cX3_unevenness 13 = .ok (.aload_n 0, 1) := by decide +kernel
theorem dX3_unevenness_14 : decode cX3_unevenness 14 = .ok (.getfield 15, 3) := by decide +kernel
theorem dX3_unevenness_17 : decode cX3_unevenness 17 = .ok (.iload_n 2, 1) := by decide +kernel
theorem dX3_unevenness_18 : decode cX3_unevenness 18 = .ok (.iaload, 1) := by decide +kernel
theorem dX3_unevenness_19 : decode cX3_unevenness 19 = .ok (.aload_n 0, 1) := by decide +kernel
theorem dX3_unevenness_20 : decode cX3_unevenness 20 = .ok (.getfield 15, 3) := by decide +kernel
theorem dX3_unevenness_23 : decode cX3_unevenness 23 = .ok (.iload_n 2, 1) := by decide +kernel
theorem dX3_unevenness_24 : decode cX3_unevenness 24 = .ok (.iconst 1, 1) := by decide +kernel
theorem dX3_unevenness_25 : decode cX3_unevenness 25 = .ok (.isub, 1) := by decide +kernel
theorem dX3_unevenness_26 : decode cX3_unevenness 26 = .ok (.iaload, 1) := by decide +kernel
theorem dX3_unevenness_27 : decode cX3_unevenness 27 = .ok (.isub, 1) := by decide +kernel
theorem dX3_unevenness_28 : decode cX3_unevenness 28 = .ok (.iconst 2, 1) := by decide +kernel
theorem dX3_unevenness_29 : decode cX3_unevenness 29 = .ok (.isub, 1) := by decide +kernel
theorem dX3_unevenness_30 : decode cX3_unevenness 30 = .ok (.invokestatic 26, 3) := by decide +kernel
theorem dX3_unevenness_33 : decode cX3_unevenness 33 = .ok (.iadd, 1) := by decide +kernel
theorem dX3_unevenness_34 : decode cX3_unevenness 34 = .ok (.istore_n 1, 1) := by decide +kernel
theorem dX3_unevenness_35 : decode cX3_unevenness 35 = .ok (.iinc 2 1, 3) := by decide +kernel
theorem dX3_unevenness_38 : decode cX3_unevenness 38 = .ok (.goto (-34), 3) := by decide +kernel
theorem dX3_unevenness_41 : decode cX3_unevenness 41 = .ok (.iload_n 1, 1) := by decide +kernel
theorem dX3_unevenness_42 : decode cX3_unevenness 42 = .ok (.ireturn, 1) := by decide +kernel
theorem dX4_init_0 : decode cX4_init 0 = .ok (.aload_n 0, 1) := by decide +kernel
theorem dX4_init_1 : decode cX4_init 1 = .ok (.invokespecial 3, 3) := by decide +kernel
theorem dX4_init_4 : decode cX4_init 4 = .ok (.aload_n 0, 1) := by decide +kernel
theorem dX4_init_5 : decode cX4_init 5 = .ok (.bipush 21, 2) := by decide +kernel
theorem dX4_init_7 : decode cX4_init 7 = .ok (.newarray .int, 2) := by decide +kernel
theorem dX4_init_9 : decode cX4_init 9 = .ok (.putfield 9, 3) := by decide +kernel
theorem dX4_init_12 : decode cX4_init 12 = .ok (.aload_n 0, 1) := by decide +kernel
theorem dX4_init_13 : decode cX4_init 13 = .ok (.sipush 273, 3) := by decide +kernel
theorem dX4_init_16 : decode cX4_init 16 = .ok (.newarray .int, 2) := by decide +kernel
theorem dX4_init_18 : decode cX4_init 18 = .ok (.putfield 15, 3) := by decide +kernel
theorem dX4_init_21 : decode cX4_init 21 = .ok (.return_, 1) := by decide +kernel
theorem dX4_measure_0 : decode cX4_measure 0 = .ok (.iconst 0, 1) := by decide +kernel
theorem dX4_measure_1 : decode cX4_measure 1 = .ok (.istore_n 3, 1) := by decide +kernel
theorem dX4_measure_2 : decode cX4_measure 2 = .ok (.iload_n 3, 1) := by decide +kernel
theorem dX4_measure_3 : decode cX4_measure 3 = .ok (.bipush 21, 2) := by decide +kernel
theorem dX4_measure_5 : decode cX4_measure 5 = .ok (.if_icmp .ge 26, 3) := by decide +kernel
theorem dX4_measure_8 : decode cX4_measure 8 = .ok (.aload_n 0, 1) := by decide +kernel
theorem dX4_measure_9 : decode cX4_measure 9 = .ok (.getfield 9, 3) := by decide +kernel
theorem dX4_measure_12 : decode cX4_measure 12 = .ok (.iload_n 3, 1) := by decide +kernel
theorem dX4_measure_13 : decode cX4_measure 13 = .ok (.iload_n 3, 1) := by decide +kernel
theorem dX4_measure_14 : decode cX4_measure 14 = .ok (.iload_n 2, 1) := by decide +kernel
theorem dX4_measure_15 : decode cX4_measure 15 = .ok (.if_icmp .lt 7, 3) := by decide +kernel
theorem dX4_measure_18 : decode cX4_measure 18 = .ok (.iconst 0, 1) := by decide +kernel
theorem dX4_measure_19 : decode cX4_measure 19 = .ok (.goto 5, 3) := by decide +kernel
theorem dX4_measure_22 : decode cX4_measure 22 = .ok (.bipush (-9), 2) := by decide +kernel
theorem dX4_measure_24 : decode cX4_measure 24 = .ok (.iastore, 1) := by decide +kernel
theorem dX4_measure_25 : decode cX4_measure 25 = .ok (.iinc 3 1, 3) := by decide +kernel
theorem dX4_measure_28 : decode cX4_measure 28 = .ok (.goto (-26), 3) := by decide +kernel
theorem dX4_measure_31 : decode cX4_measure 31 = .ok (.iconst 1, 1) := by decide +kernel
theorem dX4_measure_32 : decode cX4_measure 32 = .ok (.istore_n 3, 1) := by decide +kernel
theorem dX4_measure_33 : decode cX4_measure 33 = .ok (.iload_n 3, 1) := by decide +kernel
theorem dX4_measure_34 : decode cX4_measure 34 = .ok (.bipush 30, 2) := by decide +kernel
theorem dX4_measure_36 : decode cX4_measure 36 = .ok (.if_icmp .gt 60, 3) := by decide +kernel
theorem dX4_measure_39 : decode cX4_measure 39 = .ok (.iconst 0, 1) := by decide +kernel
theorem dX4_measure_40 : decode cX4_measure 40 = .ok (.istore 4, 2) := by decide +kernel
theorem dX4_measure_42 : decode cX4_measure 42 = .ok (.iload 4, 2) := by decide +kernel
theorem dX4_measure_44 : decode cX4_measure 44 = .ok (.bipush 21, 2) := by decide +kernel
theorem dX4_measure_46 : decode cX4_measure 46 = .ok (.if_icmp .ge 44, 3) := by decide +kernel
theorem dX4_measure_49 : decode cX4_measure 49 = .ok (.aload_n 0, 1) := by decide +kernel
theorem dX4_measure_50 : decode cX4_measure 50 = .ok (.getfield 9, 3) := by decide +kernel
theorem dX4_measure_53 : decode cX4_measure 53 = .ok (.iload 4, 2) := by decide +kernel
theorem dX4_measure_55 : decode cX4_measure 55 = .ok (.iaload, 1) := by decide +kernel
theorem dX4_measure_56 : decode cX4_measure 56 = .ok (.bipush (-9), 2) := by decide +kernel
theorem dX4_measure_58 : decode cX4_measure 58 = .ok (.if_icmp .ne 26, 3) := by decide +kernel
theorem dX4_measure_61 : decode cX4_measure 61 = .ok (.aload_n 0, 1) := by decide +kernel
theorem dX4_measure_62 : decode cX4_measure 62 = .ok (.iload_n 1, 1) := by decide +kernel
theorem dX4_measure_63 : decode cX4_measure 63 = .ok (.iload 4, 2) := by decide +kernel
theorem dX4_measure_65 : decode cX4_measure 65 = .ok (.iload_n 3, 1) := by decide +kernel
theorem dX4_measure_66 : decode cX4_measure 66 = .ok (.iconst 1, 1) := by decide +kernel
theorem dX4_measure_67 : decode cX4_measure 67 = .ok (.isub, 1) := by decide +kernel
theorem dX4_measure_68 : decode cX4_measure 68 = .ok (.invokevirtual 18, 3) := by decide +kernel
theorem dX4_measure_71 : decode cX4_measure 71 = .ok (.bipush (-9), 2) := by decide +kernel
theorem dX4_measure_73 : decode cX4_measure 73 = .ok (.if_icmp .eq 11, 3) := by decide +kernel
theorem dX4_measure_76 : decode cX4_measure 76 = .ok (.aload_n 0, 1) := by decide +kernel
theorem dX4_measure_77 : decode cX4_measure 77 = .ok (.getfield 9, 3) := by decide +kernel
theorem dX4_measure_80 : decode cX4_measure 80 = .ok (.iload 4, 2) := by decide +kernel
theorem dX4_measure_82 : decode cX4_measure 82 = .ok (.iload_n 3, 1) := by decide +kernel
theorem dX4_measure_83 : decode cX4_measure 83 = .ok (.iastore, 1) := by decide +kernel
theorem dX4_measure_84 : decode cX4_measure 84 = .ok (.iinc 4 1, 3) := by decide +kernel
theorem dX4_measure_87 : decode cX4_measure 87 = .ok (.goto (-45), 3) := by decide +kernel
theorem dX4_measure_90 : decode cX4_measure 90 = .ok (.iinc 3 1, 3) := by decide +kernel
theorem dX4_measure_93 : decode cX4_measure 93 = .ok (.goto (-60), 3) := by decide +kernel
theorem dX4_measure_96 : decode cX4_measure 96 = .ok (.return_, 1) := by decide +kernel
theorem dX4_strokesFrom_0 : decode cX4_strokesFrom 0 = .ok (.iload_n 1, 1) := by decide +kernel
theorem dX4_strokesFrom_1 : decode cX4_strokesFrom 1 = .ok (.ifCond .lt 18, 3) := by decide +kernel
theorem dX4_strokesFrom_4 : decode cX4_strokesFrom 4 = .ok (.iload_n 1, 1) := by decide +kernel
theorem dX4_strokesFrom_5 : decode cX4_strokesFrom 5 = .ok (.bipush 21, 2) := by decide +kernel
theorem dX4_strokesFrom_7 : decode cX4_strokesFrom 7 = .ok (.if_icmp .ge 12, 3) := by decide +kernel
theorem dX4_strokesFrom_10 : decode cX4_strokesFrom 10 = .ok (.aload_n 0, 1) := by decide +kernel
theorem dX4_strokesFrom_11 : decode cX4_strokesFrom 11 = .ok (.getfield 9, 3) := by decide +kernel
theorem dX4_strokesFrom_14 : decode cX4_strokesFrom 14 = .ok (.iload_n 1, 1) := by decide +kernel
theorem dX4_strokesFrom_15 : decode cX4_strokesFrom 15 = .ok (.iaload, 1) := by decide +kernel
theorem dX4_strokesFrom_16 : decode cX4_strokesFrom 16 = .ok (.goto 5, 3) := by decide +kernel
theorem dX4_strokesFrom_19 : decode cX4_strokesFrom 19 = .ok (.bipush (-9), 2) := by decide +kernel
theorem dX4_strokesFrom_21 : decode cX4_strokesFrom 21 = .ok (.ireturn, 1) := by decide +kernel
theorem dX4_pullToward_0 : decode cX4_pullToward 0 = .ok (.iconst 0, 1) := by decide +kernel
theorem dX4_pullToward_1 : decode cX4_pullToward 1 = .ok (.istore 4, 2) := by decide +kernel
theorem dX4_pullToward_3 : decode cX4_pullToward 3 = .ok (.iload 4, 2) := by decide +kernel
theorem dX4_pullToward_5 : decode cX4_pullToward 5 = .ok (.bipush 7, 2) := by decide +kernel
theorem dX4_pullToward_7 : decode cX4_pullToward 7 = .ok (.if_icmp .ge 37, 3) := by decide +kernel
theorem dX4_pullToward_10 : decode cX4_pullToward 10 = .ok (.iload_n 1, 1) := by decide +kernel
theorem dX4_pullToward_11 : decode cX4_pullToward 11 = .ok (.iload_n 2, 1) := by decide +kernel
theorem dX4_pullToward_12 : decode cX4_pullToward 12 = .ok (.iload 4, 2) := by decide +kernel
theorem dX4_pullToward_14 : decode cX4_pullToward 14 = .ok (.invokestatic 22, 3) := by decide +kernel
theorem dX4_pullToward_17 : decode cX4_pullToward 17 = .ok (.istore 5, 2) := by decide +kernel
theorem dX4_pullToward_19 : decode cX4_pullToward 19 = .ok (.iload 5, 2) := by decide +kernel
theorem dX4_pullToward_21 : decode cX4_pullToward 21 = .ok (.iconst (-1), 1) := by decide +kernel
theorem dX4_pullToward_22 : decode cX4_pullToward 22 = .ok (.if_icmp .eq 16, 3) := by decide +kernel
theorem dX4_pullToward_25 : decode cX4_pullToward 25 = .ok (.aload_n 0, 1) := by decide +kernel
theorem dX4_pullToward_26 : decode cX4_pullToward 26 = .ok (.iload 5, 2) := by decide +kernel
theorem dX4_pullToward_28 : decode cX4_pullToward 28 = .ok (.invokevirtual 25, 3) := by decide +kernel
theorem dX4_pullToward_31 : decode cX4_pullToward 31 = .ok (.iload_n 3, 1) := by decide +kernel
theorem dX4_pullToward_32 : decode cX4_pullToward 32 = .ok (.if_icmp .ne 6, 3) := by decide +kernel
theorem dX4_pullToward_35 : decode cX4_pullToward 35 = .ok (.iload 4, 2) := by decide +kernel
theorem dX4_pullToward_37 : decode cX4_pullToward 37 = .ok (.ireturn, 1) := by decide +kernel
theorem dX4_pullToward_38 : decode cX4_pullToward 38 = .ok (.iinc 4 1, 3) := by decide +kernel
theorem dX4_pullToward_41 : decode cX4_pullToward 41 = .ok (.goto (-38), 3) := by decide +kernel
theorem dX4_pullToward_44 : decode cX4_pullToward 44 = .ok (.bipush (-9), 2) := by decide +kernel
theorem dX4_pullToward_46 : decode cX4_pullToward 46 = .ok (.ireturn, 1) := by decide +kernel
theorem dX4_layFewest_0 : decode cX4_layFewest 0 = .ok (.aload_n 3, 1) := by decide +kernel
theorem dX4_layFewest_1 : decode cX4_layFewest 1 = .ok (.iload_n 2, 1) := by decide +kernel
theorem dX4_layFewest_2 : decode cX4_layFewest 2 = .ok (.iconst 0, 1) := by decide +kernel
theorem dX4_layFewest_3 : decode cX4_layFewest 3 = .ok (.invokevirtual 29, 3) := by decide +kernel
theorem dX4_layFewest_6 : decode cX4_layFewest 6 = .ok (.aload_n 1, 1) := by decide +kernel
theorem dX4_layFewest_7 : decode cX4_layFewest 7 = .ok (.getfield 35, 3) := by decide +kernel
theorem dX4_layFewest_10 : decode cX4_layFewest 10 = .ok (.istore 4, 2) := by decide +kernel
theorem dX4_layFewest_12 : decode cX4_layFewest 12 = .ok (.iconst 0, 1) := by decide +kernel
theorem dX4_layFewest_13 : decode cX4_layFewest 13 = .ok (.istore 5, 2) := by decide +kernel
theorem dX4_layFewest_15 : decode cX4_layFewest 15 = .ok (.iload 5, 2) := by decide +kernel
theorem dX4_layFewest_17 : decode cX4_layFewest 17 = .ok (.iload_n 2, 1) := by decide +kernel
theorem dX4_layFewest_18 : decode cX4_layFewest 18 = .ok (.if_icmp .ge 48, 3) := by decide +kernel
theorem dX4_layFewest_21 : decode cX4_layFewest 21 = .ok (.aload_n 0, 1) := by decide +kernel
theorem dX4_layFewest_22 : decode cX4_layFewest 22 = .ok (.aload_n 1, 1) := by decide +kernel
theorem dX4_layFewest_23 : decode cX4_layFewest 23 = .ok (.getfield 41, 3) := by decide +kernel
theorem dX4_layFewest_26 : decode cX4_layFewest 26 = .ok (.iload 4, 2) := by decide +kernel
theorem dX4_layFewest_28 : decode cX4_layFewest 28 = .ok (.iload_n 2, 1) := by decide +kernel
theorem dX4_layFewest_29 : decode cX4_layFewest 29 = .ok (.iconst 1, 1) := by decide +kernel
theorem dX4_layFewest_30 : decode cX4_layFewest 30 = .ok (.isub, 1) := by decide +kernel
theorem dX4_layFewest_31 : decode cX4_layFewest 31 = .ok (.iload 5, 2) := by decide +kernel
theorem dX4_layFewest_33 : decode cX4_layFewest 33 = .ok (.isub, 1) := by decide +kernel
theorem dX4_layFewest_34 : decode cX4_layFewest 34 = .ok (.invokevirtual 18, 3) := by decide +kernel
theorem dX4_layFewest_37 : decode cX4_layFewest 37 = .ok (.istore 6, 2) := by decide +kernel
theorem dX4_layFewest_39 : decode cX4_layFewest 39 = .ok (.aload_n 3, 1) := by decide +kernel
theorem dX4_layFewest_40 : decode cX4_layFewest 40 = .ok (.iload 5, 2) := by decide +kernel
theorem dX4_layFewest_42 : decode cX4_layFewest 42 = .ok (.iload 6, 2) := by decide +kernel
theorem dX4_layFewest_44 : decode cX4_layFewest 44 = .ok (.invokevirtual 44, 3) := by decide +kernel
theorem dX4_layFewest_47 : decode cX4_layFewest 47 = .ok (.aload_n 1, 1) := by decide +kernel
theorem dX4_layFewest_48 : decode cX4_layFewest 48 = .ok (.getfield 41, 3) := by decide +kernel
theorem dX4_layFewest_51 : decode cX4_layFewest 51 = .ok (.iload 4, 2) := by decide +kernel
theorem dX4_layFewest_53 : decode cX4_layFewest 53 = .ok (.iload 6, 2) := by decide +kernel
theorem dX4_layFewest_55 : decode cX4_layFewest 55 = .ok (.invokestatic 22, 3) := by decide +kernel
theorem dX4_layFewest_58 : decode cX4_layFewest 58 = .ok (.istore 4, 2) := by decide +kernel
theorem dX4_layFewest_60 : decode cX4_layFewest 60 = .ok (.iinc 5 1, 3) := by decide +kernel
theorem dX4_layFewest_63 : decode cX4_layFewest 63 = .ok (.goto (-48), 3) := by decide +kernel
theorem dX4_layFewest_66 : decode cX4_layFewest 66 = .ok (.return_, 1) := by decide +kernel
theorem dX4_weigh_0 : decode cX4_weigh 0 = .ok (.iconst 0, 1) := by decide +kernel
theorem dX4_weigh_1 : decode cX4_weigh 1 = .ok (.istore 4, 2) := by decide +kernel
theorem dX4_weigh_3 : decode cX4_weigh 3 = .ok (.iload 4, 2) := by decide +kernel
theorem dX4_weigh_5 : decode cX4_weigh 5 = .ok (.bipush 21, 2) := by decide +kernel
theorem dX4_weigh_7 : decode cX4_weigh 7 = .ok (.if_icmp .ge 28, 3) := by decide +kernel
theorem dX4_weigh_10 : decode cX4_weigh 10 = .ok (.aload_n 0, 1) := by decide +kernel
theorem dX4_weigh_11 : decode cX4_weigh 11 = .ok (.getfield 15, 3) := by decide +kernel
theorem dX4_weigh_14 : decode cX4_weigh 14 = .ok (.iload 4, 2) := by decide +kernel
theorem dX4_weigh_16 : decode cX4_weigh 16 = .ok (.iload 4, 2) := by decide +kernel
theorem dX4_weigh_18 : decode cX4_weigh 18 = .ok (.iload_n 3, 1) := by decide +kernel
theorem dX4_weigh_19 : decode cX4_weigh 19 = .ok (.if_icmp .ne 7, 3) := by decide +kernel
theorem dX4_weigh_22 : decode cX4_weigh 22 = .ok (.iconst 0, 1) := by decide +kernel
theorem dX4_weigh_23 : decode cX4_weigh 23 = .ok (.goto 5, 3) := by decide +kernel
theorem dX4_weigh_26 : decode cX4_weigh 26 = .ok (.bipush (-9), 2) := by decide +kernel
theorem dX4_weigh_28 : decode cX4_weigh 28 = .ok (.iastore, 1) := by decide +kernel
theorem dX4_weigh_29 : decode cX4_weigh 29 = .ok (.iinc 4 1, 3) := by decide +kernel
theorem dX4_weigh_32 : decode cX4_weigh 32 = .ok (.goto (-29), 3) := by decide +kernel
theorem dX4_weigh_35 : decode cX4_weigh 35 = .ok (.iconst 1, 1) := by decide +kernel
theorem dX4_weigh_36 : decode cX4_weigh 36 = .ok (.istore 4, 2) := by decide +kernel
theorem dX4_weigh_38 : decode cX4_weigh 38 = .ok (.iload 4, 2) := by decide +kernel
theorem dX4_weigh_40 : decode cX4_weigh 40 = .ok (.iload_n 2, 1) := by decide +kernel
theorem dX4_weigh_41 : decode cX4_weigh 41 = .ok (.if_icmp .gt 79, 3) := by decide +kernel
theorem dX4_weigh_44 : decode cX4_weigh 44 = .ok (.iload 4, 2) := by decide +kernel
theorem dX4_weigh_46 : decode cX4_weigh 46 = .ok (.bipush 12, 2) := by decide +kernel
theorem dX4_weigh_48 : decode cX4_weigh 48 = .ok (.if_icmp .gt 72, 3) := by decide +kernel
theorem dX4_weigh_51 : decode cX4_weigh 51 = .ok (.iconst 0, 1) := by decide +kernel
theorem dX4_weigh_52 : decode cX4_weigh 52 = .ok (.istore 5, 2) := by decide +kernel
theorem dX4_weigh_54 : decode cX4_weigh 54 = .ok (.iload 5, 2) := by decide +kernel
theorem dX4_weigh_56 : decode cX4_weigh 56 = .ok (.bipush 21, 2) := by decide +kernel
theorem dX4_weigh_58 : decode cX4_weigh 58 = .ok (.if_icmp .ge 56, 3) := by decide +kernel
theorem dX4_weigh_61 : decode cX4_weigh 61 = .ok (.aload_n 0, 1) := by decide +kernel
theorem dX4_weigh_62 : decode cX4_weigh 62 = .ok (.iload_n 1, 1) := by decide +kernel
theorem dX4_weigh_63 : decode cX4_weigh 63 = .ok (.iload 4, 2) := by decide +kernel
theorem dX4_weigh_65 : decode cX4_weigh 65 = .ok (.iload 5, 2) := by decide +kernel
theorem dX4_weigh_67 : decode cX4_weigh 67 = .ok (.invokevirtual 47, 3) := by decide +kernel
theorem dX4_weigh_70 : decode cX4_weigh 70 = .ok (.istore 6, 2) := by decide +kernel
theorem dX4_weigh_72 : decode cX4_weigh 72 = .ok (.aload_n 0, 1) := by decide +kernel
theorem dX4_weigh_73 : decode cX4_weigh 73 = .ok (.getfield 15, 3) := by decide +kernel
theorem dX4_weigh_76 : decode cX4_weigh 76 = .ok (.iload 4, 2) := by decide +kernel
theorem dX4_weigh_78 : decode cX4_weigh 78 = .ok (.bipush 21, 2) := by decide +kernel
theorem dX4_weigh_80 : decode cX4_weigh 80 = .ok (.imul, 1) := by decide +kernel
theorem dX4_weigh_81 : decode cX4_weigh 81 = .ok (.iload 5, 2) := by decide +kernel
theorem dX4_weigh_83 : decode cX4_weigh 83 = .ok (.iadd, 1) := by decide +kernel
theorem dX4_weigh_84 : decode cX4_weigh 84 = .ok (.iload 6, 2) := by decide +kernel
theorem dX4_weigh_86 : decode cX4_weigh 86 = .ok (.bipush (-9), 2) := by decide +kernel
theorem dX4_weigh_88 : decode cX4_weigh 88 = .ok (.if_icmp .ne 8, 3) := by decide +kernel
theorem dX4_weigh_91 : decode cX4_weigh 91 = .ok (.bipush (-9), 2) := by decide +kernel
theorem dX4_weigh_93 : decode cX4_weigh 93 = .ok (.goto 14, 3) := by decide +kernel
theorem dX4_weigh_96 : decode cX4_weigh 96 = .ok (.aload_n 0, 1) := by decide +kernel
theorem dX4_weigh_97 : decode cX4_weigh 97 = .ok (.iload_n 1, 1) := by decide +kernel
theorem dX4_weigh_98 : decode cX4_weigh 98 = .ok (.iload 4, 2) := by decide +kernel
theorem dX4_weigh_100 : decode cX4_weigh 100 = .ok (.iload 5, 2) := by decide +kernel
theorem dX4_weigh_102 : decode cX4_weigh 102 = .ok (.iload 6, 2) := by decide +kernel
theorem dX4_weigh_104 : decode cX4_weigh 104 = .ok (.invokevirtual 50, 3) := by decide +kernel
theorem dX4_weigh_107 : decode cX4_weigh 107 = .ok (.iastore, 1) := by decide +kernel
theorem dX4_weigh_108 : decode cX4_weigh 108 = .ok (.iinc 5 1, 3) := by decide +kernel
theorem dX4_weigh_111 : decode cX4_weigh 111 = .ok (.goto (-57), 3) := by decide +kernel
theorem dX4_weigh_114 : decode cX4_weigh 114 = .ok (.iinc 4 1, 3) := by decide +kernel
theorem dX4_weigh_117 : decode cX4_weigh 117 = .ok (.goto (-79), 3) := by decide +kernel
theorem dX4_weigh_120 : decode cX4_weigh 120 = .ok (.return_, 1) := by decide +kernel
theorem dX4_armsFrom_0 : decode cX4_armsFrom 0 = .ok (.iload_n 1, 1) := by decide +kernel
theorem dX4_armsFrom_1 : decode cX4_armsFrom 1 = .ok (.ifCond .lt 19, 3) := by decide +kernel
theorem dX4_armsFrom_4 : decode cX4_armsFrom 4 = .ok (.iload_n 1, 1) := by decide +kernel
theorem dX4_armsFrom_5 : decode cX4_armsFrom 5 = .ok (.bipush 12, 2) := by decide +kernel
theorem dX4_armsFrom_7 : decode cX4_armsFrom 7 = .ok (.if_icmp .gt 13, 3) := by decide +kernel
theorem dX4_armsFrom_10 : decode cX4_armsFrom 10 = .ok (.iload_n 2, 1) := by decide +kernel
theorem dX4_armsFrom_11 : decode cX4_armsFrom 11 = .ok (.ifCond .lt 9, 3) := by decide +kernel
theorem dX4_armsFrom_14 : decode cX4_armsFrom 14 = .ok (.iload_n 2, 1) := by decide +kernel
theorem dX4_armsFrom_15 : decode cX4_armsFrom 15 = .ok (.bipush 21, 2) := by decide +kernel
theorem dX4_armsFrom_17 : decode cX4_armsFrom 17 = .ok (.if_icmp .lt 6, 3) := by decide +kernel
theorem dX4_armsFrom_20 : decode cX4_armsFrom 20 = .ok (.bipush (-9), 2) := by decide +kernel
theorem dX4_armsFrom_22 : decode cX4_armsFrom 22 = .ok (.ireturn, 1) := by decide +kernel
theorem dX4_armsFrom_23 : decode cX4_armsFrom 23 = .ok (.aload_n 0, 1) := by decide +kernel
theorem dX4_armsFrom_24 : decode cX4_armsFrom 24 = .ok (.getfield 15, 3) := by decide +kernel
theorem dX4_armsFrom_27 : decode cX4_armsFrom 27 = .ok (.iload_n 1, 1) := by decide +kernel
theorem dX4_armsFrom_28 : decode cX4_armsFrom 28 = .ok (.bipush 21, 2) := by decide +kernel
theorem dX4_armsFrom_30 : decode cX4_armsFrom 30 = .ok (.imul, 1) := by decide +kernel
theorem dX4_armsFrom_31 : decode cX4_armsFrom 31 = .ok (.iload_n 2, 1) := by decide +kernel
theorem dX4_armsFrom_32 : decode cX4_armsFrom 32 = .ok (.iadd, 1) := by decide +kernel
theorem dX4_armsFrom_33 : decode cX4_armsFrom 33 = .ok (.iaload, 1) := by decide +kernel
theorem dX4_armsFrom_34 : decode cX4_armsFrom 34 = .ok (.ireturn, 1) := by decide +kernel
theorem dX4_sumBy_0 : decode cX4_sumBy 0 = .ok (.iload_n 1, 1) := by decide +kernel
theorem dX4_sumBy_1 : decode cX4_sumBy 1 = .ok (.iload_n 3, 1) := by decide +kernel
theorem dX4_sumBy_2 : decode cX4_sumBy 2 = .ok (.iload 4, 2) := by decide +kernel
theorem dX4_sumBy_4 : decode cX4_sumBy 4 = .ok (.invokestatic 22, 3) := by decide +kernel
theorem dX4_sumBy_7 : decode cX4_sumBy 7 = .ok (.istore 5, 2) := by decide +kernel
theorem dX4_sumBy_9 : decode cX4_sumBy 9 = .ok (.iload 5, 2) := by decide +kernel
theorem dX4_sumBy_11 : decode cX4_sumBy 11 = .ok (.iconst (-1), 1) := by decide +kernel
theorem dX4_sumBy_12 : decode cX4_sumBy 12 = .ok (.if_icmp .ne 8, 3) := by decide +kernel
theorem dX4_sumBy_15 : decode cX4_sumBy 15 = .ok (.bipush (-9), 2) := by decide +kernel
theorem dX4_sumBy_17 : decode cX4_sumBy 17 = .ok (.goto 12, 3) := by decide +kernel
theorem dX4_sumBy_20 : decode cX4_sumBy 20 = .ok (.aload_n 0, 1) := by decide +kernel
theorem dX4_sumBy_21 : decode cX4_sumBy 21 = .ok (.iload_n 2, 1) := by decide +kernel
theorem dX4_sumBy_22 : decode cX4_sumBy 22 = .ok (.iconst 1, 1) := by decide +kernel
theorem dX4_sumBy_23 : decode cX4_sumBy 23 = .ok (.isub, 1) := by decide +kernel
theorem dX4_sumBy_24 : decode cX4_sumBy 24 = .ok (.iload 5, 2) := by decide +kernel
theorem dX4_sumBy_26 : decode cX4_sumBy 26 = .ok (.invokevirtual 54, 3) := by decide +kernel
theorem dX4_sumBy_29 : decode cX4_sumBy 29 = .ok (.istore 6, 2) := by decide +kernel
theorem dX4_sumBy_31 : decode cX4_sumBy 31 = .ok (.iload 6, 2) := by decide +kernel
theorem dX4_sumBy_33 : decode cX4_sumBy 33 = .ok (.bipush (-9), 2) := by decide +kernel
theorem dX4_sumBy_35 : decode cX4_sumBy 35 = .ok (.if_icmp .ne 8, 3) := by decide +kernel
theorem dX4_sumBy_38 : decode cX4_sumBy 38 = .ok (.bipush (-9), 2) := by decide +kernel
theorem dX4_sumBy_40 : decode cX4_sumBy 40 = .ok (.goto 8, 3) := by decide +kernel
theorem dX4_sumBy_43 : decode cX4_sumBy 43 = .ok (.iload 4, 2) := by decide +kernel
theorem dX4_sumBy_45 : decode cX4_sumBy 45 = .ok (.iload 6, 2) := by decide +kernel
theorem dX4_sumBy_47 : decode cX4_sumBy 47 = .ok (.iadd, 1) := by decide +kernel
theorem dX4_sumBy_48 : decode cX4_sumBy 48 = .ok (.ireturn, 1) := by decide +kernel
theorem dX4_lightestPull_0 : decode cX4_lightestPull 0 = .ok (.bipush (-9), 2) := by decide +kernel
theorem dX4_lightestPull_2 : decode cX4_lightestPull 2 = .ok (.istore 4, 2) := by decide +kernel
theorem dX4_lightestPull_4 : decode cX4_lightestPull 4 = .ok (.sipush 1000, 3) := by decide +kernel
theorem dX4_lightestPull_7 : decode cX4_lightestPull 7 = .ok (.istore 5, 2) := by decide +kernel
theorem dX4_lightestPull_9 : decode cX4_lightestPull 9 = .ok (.iconst 0, 1) := by decide +kernel
theorem dX4_lightestPull_10 : decode cX4_lightestPull 10 = .ok (.istore 6, 2) := by decide +kernel
theorem dX4_lightestPull_12 : decode cX4_lightestPull 12 = .ok (.iload 6, 2) := by decide +kernel
theorem dX4_lightestPull_14 : decode cX4_lightestPull 14 = .ok (.bipush 7, 2) := by decide +kernel
theorem dX4_lightestPull_16 : decode cX4_lightestPull 16 = .ok (.if_icmp .ge 42, 3) := by decide +kernel
theorem dX4_lightestPull_19 : decode cX4_lightestPull 19 = .ok (.aload_n 0, 1) := by decide +kernel
theorem dX4_lightestPull_20 : decode cX4_lightestPull 20 = .ok (.iload_n 1, 1) := by decide +kernel
theorem dX4_lightestPull_21 : decode cX4_lightestPull 21 = .ok (.iload_n 2, 1) := by decide +kernel
theorem dX4_lightestPull_22 : decode cX4_lightestPull 22 = .ok (.iload_n 3, 1) := by decide +kernel
theorem dX4_lightestPull_23 : decode cX4_lightestPull 23 = .ok (.iload 6, 2) := by decide +kernel
theorem dX4_lightestPull_25 : decode cX4_lightestPull 25 = .ok (.invokevirtual 50, 3) := by decide +kernel
theorem dX4_lightestPull_28 : decode cX4_lightestPull 28 = .ok (.istore 7, 2) := by decide +kernel
theorem dX4_lightestPull_30 : decode cX4_lightestPull 30 = .ok (.iload 7, 2) := by decide +kernel
theorem dX4_lightestPull_32 : decode cX4_lightestPull 32 = .ok (.bipush (-9), 2) := by decide +kernel
theorem dX4_lightestPull_34 : decode cX4_lightestPull 34 = .ok (.if_icmp .eq 18, 3) := by decide +kernel
theorem dX4_lightestPull_37 : decode cX4_lightestPull 37 = .ok (.iload 7, 2) := by decide +kernel
theorem dX4_lightestPull_39 : decode cX4_lightestPull 39 = .ok (.iload 5, 2) := by decide +kernel
theorem dX4_lightestPull_41 : decode cX4_lightestPull 41 = .ok (.if_icmp .ge 11, 3) := by decide +kernel
theorem dX4_lightestPull_44 : decode cX4_lightestPull 44 = .ok (.iload 7, 2) := by decide +kernel
theorem dX4_lightestPull_46 : decode cX4_lightestPull 46 = .ok (.istore 5, 2) := by decide +kernel
theorem dX4_lightestPull_48 : decode cX4_lightestPull 48 = .ok (.iload 6, 2) := by decide +kernel
theorem dX4_lightestPull_50 : decode cX4_lightestPull 50 = .ok (.istore 4, 2) := by decide +kernel
theorem dX4_lightestPull_52 : decode cX4_lightestPull 52 = .ok (.iinc 6 1, 3) := by decide +kernel
theorem dX4_lightestPull_55 : decode cX4_lightestPull 55 = .ok (.goto (-43), 3) := by decide +kernel
theorem dX4_lightestPull_58 : decode cX4_lightestPull 58 = .ok (.iload 4, 2) := by decide +kernel
theorem dX4_lightestPull_60 : decode cX4_lightestPull 60 = .ok (.ireturn, 1) := by decide +kernel
theorem dX4_layLightest_0 : decode cX4_layLightest 0 = .ok (.aload_n 3, 1) := by decide +kernel
theorem dX4_layLightest_1 : decode cX4_layLightest 1 = .ok (.iload_n 2, 1) := by decide +kernel
theorem dX4_layLightest_2 : decode cX4_layLightest 2 = .ok (.iconst 0, 1) := by decide +kernel
theorem dX4_layLightest_3 : decode cX4_layLightest 3 = .ok (.invokevirtual 29, 3) := by decide +kernel
theorem dX4_layLightest_6 : decode cX4_layLightest 6 = .ok (.aload_n 1, 1) := by decide +kernel
theorem dX4_layLightest_7 : decode cX4_layLightest 7 = .ok (.getfield 35, 3) := by decide +kernel
theorem dX4_layLightest_10 : decode cX4_layLightest 10 = .ok (.istore 4, 2) := by decide +kernel
theorem dX4_layLightest_12 : decode cX4_layLightest 12 = .ok (.iconst 0, 1) := by decide +kernel
theorem dX4_layLightest_13 : decode cX4_layLightest 13 = .ok (.istore 5, 2) := by decide +kernel
theorem dX4_layLightest_15 : decode cX4_layLightest 15 = .ok (.iload 5, 2) := by decide +kernel
theorem dX4_layLightest_17 : decode cX4_layLightest 17 = .ok (.iload_n 2, 1) := by decide +kernel
theorem dX4_layLightest_18 : decode cX4_layLightest 18 = .ok (.if_icmp .ge 46, 3) := by decide +kernel
theorem dX4_layLightest_21 : decode cX4_layLightest 21 = .ok (.aload_n 0, 1) := by decide +kernel
theorem dX4_layLightest_22 : decode cX4_layLightest 22 = .ok (.aload_n 1, 1) := by decide +kernel
theorem dX4_layLightest_23 : decode cX4_layLightest 23 = .ok (.getfield 41, 3) := by decide +kernel
theorem dX4_layLightest_26 : decode cX4_layLightest 26 = .ok (.iload_n 2, 1) := by decide +kernel
theorem dX4_layLightest_27 : decode cX4_layLightest 27 = .ok (.iload 5, 2) := by decide +kernel
theorem dX4_layLightest_29 : decode cX4_layLightest 29 = .ok (.isub, 1) := by decide +kernel
theorem dX4_layLightest_30 : decode cX4_layLightest 30 = .ok (.iload 4, 2) := by decide +kernel
theorem dX4_layLightest_32 : decode cX4_layLightest 32 = .ok (.invokevirtual 47, 3) := by decide +kernel
theorem dX4_layLightest_35 : decode cX4_layLightest 35 = .ok (.istore 6, 2) := by decide +kernel
theorem dX4_layLightest_37 : decode cX4_layLightest 37 = .ok (.aload_n 3, 1) := by decide +kernel
theorem dX4_layLightest_38 : decode cX4_layLightest 38 = .ok (.iload 5, 2) := by decide +kernel
theorem dX4_layLightest_40 : decode cX4_layLightest 40 = .ok (.iload 6, 2) := by decide +kernel
theorem dX4_layLightest_42 : decode cX4_layLightest 42 = .ok (.invokevirtual 44, 3) := by decide +kernel
theorem dX4_layLightest_45 : decode cX4_layLightest 45 = .ok (.aload_n 1, 1) := by decide +kernel
theorem dX4_layLightest_46 : decode cX4_layLightest 46 = .ok (.getfield 41, 3) := by decide +kernel
theorem dX4_layLightest_49 : decode cX4_layLightest 49 = .ok (.iload 4, 2) := by decide +kernel
theorem dX4_layLightest_51 : decode cX4_layLightest 51 = .ok (.iload 6, 2) := by decide +kernel
theorem dX4_layLightest_53 : decode cX4_layLightest 53 = .ok (.invokestatic 22, 3) := by decide +kernel
theorem dX4_layLightest_56 : decode cX4_layLightest 56 = .ok (.istore 4, 2) := by decide +kernel
theorem dX4_layLightest_58 : decode cX4_layLightest 58 = .ok (.iinc 5 1, 3) := by decide +kernel
theorem dX4_layLightest_61 : decode cX4_layLightest 61 = .ok (.goto (-46), 3) := by decide +kernel
theorem dX4_layLightest_64 : decode cX4_layLightest 64 = .ok (.return_, 1) := by decide +kernel
theorem dX5_init_0 : decode cX5_init 0 = .ok (.aload_n 0, 1) := by decide +kernel
theorem dX5_init_1 : decode cX5_init 1 = .ok (.invokespecial 3, 3) := by decide +kernel
theorem dX5_init_4 : decode cX5_init 4 = .ok (.aload_n 0, 1) := by decide +kernel
theorem dX5_init_5 : decode cX5_init 5 = .ok (.bipush 21, 2) := by decide +kernel
theorem dX5_init_7 : decode cX5_init 7 = .ok (.newarray .boolean, 2) := by decide +kernel
theorem dX5_init_9 : decode cX5_init 9 = .ok (.putfield 9, 3) := by decide +kernel
theorem dX5_init_12 : decode cX5_init 12 = .ok (.aload_n 0, 1) := by decide +kernel
theorem dX5_init_13 : decode cX5_init 13 = .ok (.bipush 21, 2) := by decide +kernel
theorem dX5_init_15 : decode cX5_init 15 = .ok (.newarray .boolean, 2) := by decide +kernel
theorem dX5_init_17 : decode cX5_init 17 = .ok (.putfield 15, 3) := by decide +kernel
theorem dX5_init_20 : decode cX5_init 20 = .ok (.return_, 1) := by decide +kernel
theorem dX5_reckon_0 : decode cX5_reckon 0 = .ok (.iconst 0, 1) := by decide +kernel
theorem dX5_reckon_1 : decode cX5_reckon 1 = .ok (.istore_n 3, 1) := by decide +kernel
theorem dX5_reckon_2 : decode cX5_reckon 2 = .ok (.iload_n 3, 1) := by decide +kernel
theorem dX5_reckon_3 : decode cX5_reckon 3 = .ok (.bipush 21, 2) := by decide +kernel
theorem dX5_reckon_5 : decode cX5_reckon 5 = .ok (.if_icmp .ge 26, 3) := by decide +kernel
theorem dX5_reckon_8 : decode cX5_reckon 8 = .ok (.aload_n 0, 1) := by decide +kernel
theorem dX5_reckon_9 : decode cX5_reckon 9 = .ok (.getfield 9, 3) := by decide +kernel
theorem dX5_reckon_12 : decode cX5_reckon 12 = .ok (.iload_n 3, 1) := by decide +kernel
theorem dX5_reckon_13 : decode cX5_reckon 13 = .ok (.iload_n 3, 1) := by decide +kernel
theorem dX5_reckon_14 : decode cX5_reckon 14 = .ok (.bipush 20, 2) := by decide +kernel
theorem dX5_reckon_16 : decode cX5_reckon 16 = .ok (.if_icmp .ne 7, 3) := by decide +kernel
theorem dX5_reckon_19 : decode cX5_reckon 19 = .ok (.iconst 1, 1) := by decide +kernel
theorem dX5_reckon_20 : decode cX5_reckon 20 = .ok (.goto 4, 3) := by decide +kernel
theorem dX5_reckon_23 : decode cX5_reckon 23 = .ok (.iconst 0, 1) := by decide +kernel
theorem dX5_reckon_24 : decode cX5_reckon 24 = .ok (.bastore, 1) := by decide +kernel
theorem dX5_reckon_25 : decode cX5_reckon 25 = .ok (.iinc 3 1, 3) := by decide +kernel
theorem dX5_reckon_28 : decode cX5_reckon 28 = .ok (.goto (-26), 3) := by decide +kernel
theorem dX5_reckon_31 : decode cX5_reckon 31 = .ok (.iconst 0, 1) := by decide +kernel
theorem dX5_reckon_32 : decode cX5_reckon 32 = .ok (.istore_n 3, 1) := by decide +kernel
theorem dX5_reckon_33 : decode cX5_reckon 33 = .ok (.iload_n 3, 1) := by decide +kernel
theorem dX5_reckon_34 : decode cX5_reckon 34 = .ok (.iload_n 2, 1) := by decide +kernel
theorem dX5_reckon_35 : decode cX5_reckon 35 = .ok (.if_icmp .ge 79, 3) := by decide +kernel
theorem dX5_reckon_38 : decode cX5_reckon 38 = .ok (.iconst 0, 1) := by decide +kernel
theorem dX5_reckon_39 : decode cX5_reckon 39 = .ok (.istore 4, 2) := by decide +kernel
theorem dX5_reckon_41 : decode cX5_reckon 41 = .ok (.iload 4, 2) := by decide +kernel
theorem dX5_reckon_43 : decode cX5_reckon 43 = .ok (.bipush 21, 2) := by decide +kernel
theorem dX5_reckon_45 : decode cX5_reckon 45 = .ok (.if_icmp .ge 23, 3) := by decide +kernel
theorem dX5_reckon_48 : decode cX5_reckon 48 = .ok (.aload_n 0, 1) := by decide +kernel
theorem dX5_reckon_49 : decode cX5_reckon 49 = .ok (.getfield 15, 3) := by decide +kernel
theorem dX5_reckon_52 : decode cX5_reckon 52 = .ok (.iload 4, 2) := by decide +kernel
theorem dX5_reckon_54 : decode cX5_reckon 54 = .ok (.aload_n 0, 1) := by decide +kernel
theorem dX5_reckon_55 : decode cX5_reckon 55 = .ok (.iload_n 1, 1) := by decide +kernel
theorem dX5_reckon_56 : decode cX5_reckon 56 = .ok (.iload 4, 2) := by decide +kernel
theorem dX5_reckon_58 : decode cX5_reckon 58 = .ok (.invokevirtual 18, 3) := by decide +kernel
theorem dX5_reckon_61 : decode cX5_reckon 61 = .ok (.bastore, 1) := by decide +kernel
theorem dX5_reckon_62 : decode cX5_reckon 62 = .ok (.iinc 4 1, 3) := by decide +kernel
theorem dX5_reckon_65 : decode cX5_reckon 65 = .ok (.goto (-24), 3) := by decide +kernel
theorem dX5_reckon_68 : decode cX5_reckon 68 = .ok (.iconst 0, 1) := by decide +kernel
theorem dX5_reckon_69 : decode cX5_reckon 69 = .ok (.istore 4, 2) := by decide +kernel
theorem dX5_reckon_71 : decode cX5_reckon 71 = .ok (.iload 4, 2) := by decide +kernel
theorem dX5_reckon_73 : decode cX5_reckon 73 = .ok (.bipush 21, 2) := by decide +kernel
theorem dX5_reckon_75 : decode cX5_reckon 75 = .ok (.if_icmp .ge 33, 3) := by decide +kernel
theorem dX5_reckon_78 : decode cX5_reckon 78 = .ok (.aload_n 0, 1) := by decide +kernel
theorem dX5_reckon_79 : decode cX5_reckon 79 = .ok (.getfield 9, 3) := by decide +kernel
theorem dX5_reckon_82 : decode cX5_reckon 82 = .ok (.iload 4, 2) := by decide +kernel
theorem dX5_reckon_84 : decode cX5_reckon 84 = .ok (.aload_n 0, 1) := by decide +kernel
theorem dX5_reckon_85 : decode cX5_reckon 85 = .ok (.iload_n 1, 1) := by decide +kernel
theorem dX5_reckon_86 : decode cX5_reckon 86 = .ok (.iload 4, 2) := by decide +kernel
theorem dX5_reckon_88 : decode cX5_reckon 88 = .ok (.invokevirtual 22, 3) := by decide +kernel
theorem dX5_reckon_91 : decode cX5_reckon 91 = .ok (.bipush (-9), 2) := by decide +kernel
theorem dX5_reckon_93 : decode cX5_reckon 93 = .ok (.if_icmp .eq 7, 3) := by decide +kernel
theorem dX5_reckon_96 : decode cX5_reckon 96 = .ok (.iconst 1, 1) := by decide +kernel
theorem dX5_reckon_97 : decode cX5_reckon 97 = .ok (.goto 4, 3) := by decide +kernel
theorem dX5_reckon_100 : decode cX5_reckon 100 = .ok (.iconst 0, 1) := by decide +kernel
theorem dX5_reckon_101 : decode cX5_reckon 101 = .ok (.bastore, 1) := by decide +kernel
theorem dX5_reckon_102 : decode cX5_reckon 102 = .ok (.iinc 4 1, 3) := by decide +kernel
theorem dX5_reckon_105 : decode cX5_reckon 105 = .ok (.goto (-34), 3) := by decide +kernel
theorem dX5_reckon_108 : decode cX5_reckon 108 = .ok (.iinc 3 1, 3) := by decide +kernel
theorem dX5_reckon_111 : decode cX5_reckon 111 = .ok (.goto (-78), 3) := by decide +kernel
theorem dX5_reckon_114 : decode cX5_reckon 114 = .ok (.return_, 1) := by decide +kernel
theorem dX5_winsAgainstAll_0 : decode cX5_winsAgainstAll 0 = .ok (.iconst 0, 1) := by decide +kernel
theorem dX5_winsAgainstAll_1 : decode cX5_winsAgainstAll 1 = .ok (.istore_n 3, 1) := by decide +kernel
theorem dX5_winsAgainstAll_2 : decode cX5_winsAgainstAll 2 = .ok (.iload_n 3, 1) := by decide +kernel
theorem dX5_winsAgainstAll_3 : decode cX5_winsAgainstAll 3 = .ok (.iconst 4, 1) := by decide +kernel
theorem dX5_winsAgainstAll_4 : decode cX5_winsAgainstAll 4 = .ok (.if_icmp .ge 35, 3) := by decide +kernel
theorem dX5_winsAgainstAll_7 : decode cX5_winsAgainstAll 7 = .ok (.iload_n 1, 1) := by decide +kernel
theorem dX5_winsAgainstAll_8 : decode cX5_winsAgainstAll 8 = .ok (.iload_n 2, 1) := by decide +kernel
theorem dX5_winsAgainstAll_9 : decode cX5_winsAgainstAll 9 = .ok (.iload_n 3, 1) := by decide +kernel
theorem dX5_winsAgainstAll_10 : decode cX5_winsAgainstAll 10 = .ok (.invokestatic 26, 3) := by decide +kernel
theorem dX5_winsAgainstAll_13 : decode cX5_winsAgainstAll 13 = .ok (.istore 4, 2) := by decide +kernel
theorem dX5_winsAgainstAll_15 : decode cX5_winsAgainstAll 15 = .ok (.iload 4, 2) := by decide +kernel
theorem dX5_winsAgainstAll_17 : decode cX5_winsAgainstAll 17 = .ok (.iconst (-1), 1) := by decide +kernel
theorem dX5_winsAgainstAll_18 : decode cX5_winsAgainstAll 18 = .ok (.if_icmp .eq 15, 3) := by decide +kernel
theorem dX5_winsAgainstAll_21 : decode cX5_winsAgainstAll 21 = .ok (.aload_n 0, 1) := by decide +kernel
theorem dX5_winsAgainstAll_22 : decode cX5_winsAgainstAll 22 = .ok (.getfield 9, 3) := by decide +kernel
theorem dX5_winsAgainstAll_25 : decode cX5_winsAgainstAll 25 = .ok (.iload 4, 2) := by decide +kernel
theorem dX5_winsAgainstAll_27 : decode cX5_winsAgainstAll 27 = .ok (.baload, 1) := by decide +kernel
theorem dX5_winsAgainstAll_28 : decode cX5_winsAgainstAll 28 = .ok (.ifCond .ne 5, 3) := by decide +kernel
theorem dX5_winsAgainstAll_31 : decode cX5_winsAgainstAll 31 = .ok (.iconst 0, 1) := by decide +kernel
theorem dX5_winsAgainstAll_32 : decode cX5_winsAgainstAll 32 = .ok (.ireturn, 1) := by decide +kernel
theorem dX5_winsAgainstAll_33 : decode cX5_winsAgainstAll 33 = .ok (.iinc 3 1, 3) := by decide +kernel
theorem dX5_winsAgainstAll_36 : decode cX5_winsAgainstAll 36 = .ok (.goto (-34), 3) := by decide +kernel
theorem dX5_winsAgainstAll_39 : decode cX5_winsAgainstAll 39 = .ok (.iconst 1, 1) := by decide +kernel
theorem dX5_winsAgainstAll_40 : decode cX5_winsAgainstAll 40 = .ok (.ireturn, 1) := by decide +kernel
theorem dX5_winningPull_0 : decode cX5_winningPull 0 = .ok (.iconst 0, 1) := by decide +kernel
theorem dX5_winningPull_1 : decode cX5_winningPull 1 = .ok (.istore_n 3, 1) := by decide +kernel
theorem dX5_winningPull_2 : decode cX5_winningPull 2 = .ok (.iload_n 3, 1) := by decide +kernel
theorem dX5_winningPull_3 : decode cX5_winningPull 3 = .ok (.bipush 7, 2) := by decide +kernel
theorem dX5_winningPull_5 : decode cX5_winningPull 5 = .ok (.if_icmp .ge 35, 3) := by decide +kernel
theorem dX5_winningPull_8 : decode cX5_winningPull 8 = .ok (.iload_n 1, 1) := by decide +kernel
theorem dX5_winningPull_9 : decode cX5_winningPull 9 = .ok (.iload_n 2, 1) := by decide +kernel
theorem dX5_winningPull_10 : decode cX5_winningPull 10 = .ok (.iload_n 3, 1) := by decide +kernel
theorem dX5_winningPull_11 : decode cX5_winningPull 11 = .ok (.invokestatic 26, 3) := by decide +kernel
theorem dX5_winningPull_14 : decode cX5_winningPull 14 = .ok (.istore 4, 2) := by decide +kernel
theorem dX5_winningPull_16 : decode cX5_winningPull 16 = .ok (.iload 4, 2) := by decide +kernel
theorem dX5_winningPull_18 : decode cX5_winningPull 18 = .ok (.iconst (-1), 1) := by decide +kernel
theorem dX5_winningPull_19 : decode cX5_winningPull 19 = .ok (.if_icmp .eq 15, 3) := by decide +kernel
theorem dX5_winningPull_22 : decode cX5_winningPull 22 = .ok (.aload_n 0, 1) := by decide +kernel
theorem dX5_winningPull_23 : decode cX5_winningPull 23 = .ok (.getfield 15, 3) := by decide +kernel
theorem dX5_winningPull_26 : decode cX5_winningPull 26 = .ok (.iload 4, 2) := by decide +kernel
theorem dX5_winningPull_28 : decode cX5_winningPull 28 = .ok (.baload, 1) := by decide +kernel
theorem dX5_winningPull_29 : decode cX5_winningPull 29 = .ok (.ifCond .eq 5, 3) := by decide +kernel
theorem dX5_winningPull_32 : decode cX5_winningPull 32 = .ok (.iload_n 3, 1) := by decide +kernel
theorem dX5_winningPull_33 : decode cX5_winningPull 33 = .ok (.ireturn, 1) := by decide +kernel
theorem dX5_winningPull_34 : decode cX5_winningPull 34 = .ok (.iinc 3 1, 3) := by decide +kernel
theorem dX5_winningPull_37 : decode cX5_winningPull 37 = .ok (.goto (-35), 3) := by decide +kernel
theorem dX5_winningPull_40 : decode cX5_winningPull 40 = .ok (.bipush (-9), 2) := by decide +kernel
theorem dX5_winningPull_42 : decode cX5_winningPull 42 = .ok (.ireturn, 1) := by decide +kernel
theorem dX6_init_0 : decode cX6_init 0 = .ok (.aload_n 0, 1) := by decide +kernel
theorem dX6_init_1 : decode cX6_init 1 = .ok (.invokespecial 3, 3) := by decide +kernel
theorem dX6_init_4 : decode cX6_init 4 = .ok (.aload_n 0, 1) := by decide +kernel
theorem dX6_init_5 : decode cX6_init 5 = .ok (.iconst 0, 1) := by decide +kernel
theorem dX6_init_6 : decode cX6_init 6 = .ok (.iload_n 1, 1) := by decide +kernel
theorem dX6_init_7 : decode cX6_init 7 = .ok (.invokestatic 9, 3) := by decide +kernel
theorem dX6_init_10 : decode cX6_init 10 = .ok (.newarray .int, 2) := by decide +kernel
theorem dX6_init_12 : decode cX6_init 12 = .ok (.putfield 15, 3) := by decide +kernel
theorem dX6_init_15 : decode cX6_init 15 = .ok (.return_, 1) := by decide +kernel
theorem dX6_begin_0 : decode cX6_begin 0 = .ok (.aload_n 0, 1) := by decide +kernel
theorem dX6_begin_1 : decode cX6_begin 1 = .ok (.iconst 1, 1) := by decide +kernel
theorem dX6_begin_2 : decode cX6_begin 2 = .ok (.putfield 21, 3) := by decide +kernel
theorem dX6_begin_5 : decode cX6_begin 5 = .ok (.aload_n 0, 1) := by decide +kernel
theorem dX6_begin_6 : decode cX6_begin 6 = .ok (.iconst 0, 1) := by decide +kernel
theorem dX6_begin_7 : decode cX6_begin 7 = .ok (.iload_n 1, 1) := by decide +kernel
theorem dX6_begin_8 : decode cX6_begin 8 = .ok (.aload_n 0, 1) := by decide +kernel
theorem dX6_begin_9 : decode cX6_begin 9 = .ok (.getfield 15, 3) := by decide +kernel
theorem dX6_begin_12 : decode cX6_begin 12 = .ok (.arraylength, 1) := by decide +kernel
theorem dX6_begin_13 : decode cX6_begin 13 = .ok (.invokestatic 25, 3) := by decide +kernel
theorem dX6_begin_16 : decode cX6_begin 16 = .ok (.invokestatic 9, 3) := by decide +kernel
theorem dX6_begin_19 : decode cX6_begin 19 = .ok (.putfield 28, 3) := by decide +kernel
theorem dX6_begin_22 : decode cX6_begin 22 = .ok (.aload_n 0, 1) := by decide +kernel
theorem dX6_begin_23 : decode cX6_begin 23 = .ok (.getfield 15, 3) := by decide +kernel
theorem dX6_begin_26 : decode cX6_begin 26 = .ok (.iconst 0, 1) := by decide +kernel
theorem dX6_begin_27 : decode cX6_begin 27 = .ok (.aload_n 0, 1) := by decide +kernel
theorem dX6_begin_28 : decode cX6_begin 28 = .ok (.getfield 28, 3) := by decide +kernel
theorem dX6_begin_31 : decode cX6_begin 31 = .ok (.iload_n 2, 1) := by decide +kernel
theorem dX6_begin_32 : decode cX6_begin 32 = .ok (.invokestatic 32, 3) := by decide +kernel
theorem dX6_begin_35 : decode cX6_begin 35 = .ok (.return_, 1) := by decide +kernel
theorem dX6_has_0 : decode cX6_has 0 = .ok (.iload_n 1, 1) := by decide +kernel
theorem dX6_has_1 : decode cX6_has 1 = .ok (.ifCond .lt 15, 3) := by decide +kernel
theorem dX6_has_4 : decode cX6_has 4 = .ok (.iload_n 1, 1) := by decide +kernel
theorem dX6_has_5 : decode cX6_has 5 = .ok (.aload_n 0, 1) := by decide +kernel
theorem dX6_has_6 : decode cX6_has 6 = .ok (.getfield 28, 3) := by decide +kernel
theorem dX6_has_9 : decode cX6_has 9 = .ok (.if_icmp .ge 7, 3) := by decide +kernel
theorem dX6_has_12 : decode cX6_has 12 = .ok (.iconst 1, 1) := by decide +kernel
theorem dX6_has_13 : decode cX6_has 13 = .ok (.goto 4, 3) := by decide +kernel
theorem dX6_has_16 : decode cX6_has 16 = .ok (.iconst 0, 1) := by decide +kernel
theorem dX6_has_17 : decode cX6_has 17 = .ok (.ireturn, 1) := by decide +kernel
theorem dX6_spans_0 : decode cX6_spans 0 = .ok (.iload_n 1, 1) := by decide +kernel
theorem dX6_spans_1 : decode cX6_spans 1 = .ok (.ifCond .lt 25, 3) := by decide +kernel
theorem dX6_spans_4 : decode cX6_spans 4 = .ok (.iload_n 1, 1) := by decide +kernel
theorem dX6_spans_5 : decode cX6_spans 5 = .ok (.aload_n 0, 1) := by decide +kernel
theorem dX6_spans_6 : decode cX6_spans 6 = .ok (.getfield 28, 3) := by decide +kernel
theorem dX6_spans_9 : decode cX6_spans 9 = .ok (.if_icmp .gt 17, 3) := by decide +kernel
theorem dX6_spans_12 : decode cX6_spans 12 = .ok (.iload_n 2, 1) := by decide +kernel
theorem dX6_spans_13 : decode cX6_spans 13 = .ok (.aload_n 0, 1) := by decide +kernel
theorem dX6_spans_14 : decode cX6_spans 14 = .ok (.getfield 28, 3) := by decide +kernel
theorem dX6_spans_17 : decode cX6_spans 17 = .ok (.iload_n 1, 1) := by decide +kernel
theorem dX6_spans_18 : decode cX6_spans 18 = .ok (.isub, 1) := by decide +kernel
theorem dX6_spans_19 : decode cX6_spans 19 = .ok (.if_icmp .gt 7, 3) := by decide +kernel
theorem dX6_spans_22 : decode cX6_spans 22 = .ok (.iconst 1, 1) := by decide +kernel
theorem dX6_spans_23 : decode cX6_spans 23 = .ok (.goto 4, 3) := by decide +kernel
theorem dX6_spans_26 : decode cX6_spans 26 = .ok (.iconst 0, 1) := by decide +kernel
theorem dX6_spans_27 : decode cX6_spans 27 = .ok (.ireturn, 1) := by decide +kernel
theorem dX6_hasPulls_0 : decode cX6_hasPulls 0 = .ok (.iconst 0, 1) := by decide +kernel
theorem dX6_hasPulls_1 : decode cX6_hasPulls 1 = .ok (.istore_n 2, 1) := by decide +kernel
theorem dX6_hasPulls_2 : decode cX6_hasPulls 2 = .ok (.iload_n 2, 1) := by decide +kernel
theorem dX6_hasPulls_3 : decode cX6_hasPulls 3 = .ok (.aload_n 0, 1) := by decide +kernel
theorem dX6_hasPulls_4 : decode cX6_hasPulls 4 = .ok (.getfield 28, 3) := by decide +kernel
theorem dX6_hasPulls_7 : decode cX6_hasPulls 7 = .ok (.if_icmp .ge 28, 3) := by decide +kernel
theorem dX6_hasPulls_10 : decode cX6_hasPulls 10 = .ok (.aload_n 0, 1) := by decide +kernel
theorem dX6_hasPulls_11 : decode cX6_hasPulls 11 = .ok (.getfield 15, 3) := by decide +kernel
theorem dX6_hasPulls_14 : decode cX6_hasPulls 14 = .ok (.iload_n 2, 1) := by decide +kernel
theorem dX6_hasPulls_15 : decode cX6_hasPulls 15 = .ok (.iaload, 1) := by decide +kernel
theorem dX6_hasPulls_16 : decode cX6_hasPulls 16 = .ok (.invokestatic 38, 3) := by decide +kernel
theorem dX6_hasPulls_19 : decode cX6_hasPulls 19 = .ok (.ifCond .ne 5, 3) := by decide +kernel
theorem dX6_hasPulls_22 : decode cX6_hasPulls 22 = .ok (.iconst 0, 1) := by decide +kernel
theorem dX6_hasPulls_23 : decode cX6_hasPulls 23 = .ok (.ireturn, 1) := by decide +kernel
theorem dX6_hasPulls_24 : decode cX6_hasPulls 24 = .ok (.iload_n 2, 1) := by decide +kernel
theorem dX6_hasPulls_25 : decode cX6_hasPulls 25 = .ok (.iconst 1, 1) := by decide +kernel
theorem dX6_hasPulls_26 : decode cX6_hasPulls 26 = .ok (.iload_n 1, 1) := by decide +kernel
theorem dX6_hasPulls_27 : decode cX6_hasPulls 27 = .ok (.invokestatic 9, 3) := by decide +kernel
theorem dX6_hasPulls_30 : decode cX6_hasPulls 30 = .ok (.iadd, 1) := by decide +kernel
theorem dX6_hasPulls_31 : decode cX6_hasPulls 31 = .ok (.istore_n 2, 1) := by decide +kernel
theorem dX6_hasPulls_32 : decode cX6_hasPulls 32 = .ok (.goto (-30), 3) := by decide +kernel
theorem dX6_hasPulls_35 : decode cX6_hasPulls 35 = .ok (.iconst 1, 1) := by decide +kernel
theorem dX6_hasPulls_36 : decode cX6_hasPulls 36 = .ok (.ireturn, 1) := by decide +kernel
theorem dX6_set_0 : decode cX6_set 0 = .ok (.aload_n 0, 1) := by decide +kernel
theorem dX6_set_1 : decode cX6_set 1 = .ok (.iload_n 1, 1) := by decide +kernel
theorem dX6_set_2 : decode cX6_set 2 = .ok (.invokevirtual 42, 3) := by decide +kernel
theorem dX6_set_5 : decode cX6_set 5 = .ok (.ifCond .eq 10, 3) := by decide +kernel
theorem dX6_set_8 : decode cX6_set 8 = .ok (.aload_n 0, 1) := by decide +kernel
theorem dX6_set_9 : decode cX6_set 9 = .ok (.getfield 15, 3) := by decide +kernel
theorem dX6_set_12 : decode cX6_set 12 = .ok (.iload_n 1, 1) := by decide +kernel
theorem dX6_set_13 : decode cX6_set 13 = .ok (.iload_n 2, 1) := by decide +kernel
theorem dX6_set_14 : decode cX6_set 14 = .ok (.iastore, 1) := by decide +kernel
theorem dX6_set_15 : decode cX6_set 15 = .ok (.return_, 1) := by decide +kernel
theorem dX6_sign_0 : decode cX6_sign 0 = .ok (.aload_n 0, 1) := by decide +kernel
theorem dX6_sign_1 : decode cX6_sign 1 = .ok (.iload_n 1, 1) := by decide +kernel
theorem dX6_sign_2 : decode cX6_sign 2 = .ok (.invokevirtual 42, 3) := by decide +kernel
theorem dX6_sign_5 : decode cX6_sign 5 = .ok (.ifCond .eq 12, 3) := by decide +kernel
theorem dX6_sign_8 : decode cX6_sign 8 = .ok (.aload_n 0, 1) := by decide +kernel
theorem dX6_sign_9 : decode cX6_sign 9 = .ok (.getfield 15, 3) := by decide +kernel
theorem dX6_sign_12 : decode cX6_sign 12 = .ok (.iload_n 1, 1) := by decide +kernel
theorem dX6_sign_13 : decode cX6_sign 13 = .ok (.iaload, 1) := by decide +kernel
theorem dX6_sign_14 : decode cX6_sign 14 = .ok (.goto 6, 3) := by decide +kernel
theorem dX6_sign_17 : decode cX6_sign 17 = .ok (.sipush 1000, 3) := by decide +kernel
theorem dX6_sign_20 : decode cX6_sign 20 = .ok (.ireturn, 1) := by decide +kernel
theorem dX6_figure_0 : decode cX6_figure 0 = .ok (.aload_n 0, 1) := by decide +kernel
theorem dX6_figure_1 : decode cX6_figure 1 = .ok (.iload_n 1, 1) := by decide +kernel
theorem dX6_figure_2 : decode cX6_figure 2 = .ok (.invokevirtual 45, 3) := by decide +kernel
theorem dX6_figure_5 : decode cX6_figure 5 = .ok (.bipush 48, 2) := by decide +kernel
theorem dX6_figure_7 : decode cX6_figure 7 = .ok (.isub, 1) := by decide +kernel
theorem dX6_figure_8 : decode cX6_figure 8 = .ok (.ireturn, 1) := by decide +kernel
theorem dX6_isFigure_0 : decode cX6_isFigure 0 = .ok (.aload_n 0, 1) := by decide +kernel
theorem dX6_isFigure_1 : decode cX6_isFigure 1 = .ok (.iload_n 1, 1) := by decide +kernel
theorem dX6_isFigure_2 : decode cX6_isFigure 2 = .ok (.invokevirtual 49, 3) := by decide +kernel
theorem dX6_isFigure_5 : decode cX6_isFigure 5 = .ok (.iload_n 2, 1) := by decide +kernel
theorem dX6_isFigure_6 : decode cX6_isFigure 6 = .ok (.if_icmp .lt 16, 3) := by decide +kernel
theorem dX6_isFigure_9 : decode cX6_isFigure 9 = .ok (.aload_n 0, 1) := by decide +kernel
theorem dX6_isFigure_10 : decode cX6_isFigure 10 = .ok (.iload_n 1, 1) := by decide +kernel
theorem dX6_isFigure_11 : decode cX6_isFigure 11 = .ok (.invokevirtual 49, 3) := by decide +kernel
theorem dX6_isFigure_14 : decode cX6_isFigure 14 = .ok (.iload_n 3, 1) := by decide +kernel
theorem dX6_isFigure_15 : decode cX6_isFigure 15 = .ok (.if_icmp .gt 7, 3) := by decide +kernel
theorem dX6_isFigure_18 : decode cX6_isFigure 18 = .ok (.iconst 1, 1) := by decide +kernel
theorem dX6_isFigure_19 : decode cX6_isFigure 19 = .ok (.goto 4, 3) := by decide +kernel
theorem dX6_isFigure_22 : decode cX6_isFigure 22 = .ok (.iconst 0, 1) := by decide +kernel
theorem dX6_isFigure_23 : decode cX6_isFigure 23 = .ok (.ireturn, 1) := by decide +kernel
theorem dX6_pastBlanks_0 : decode cX6_pastBlanks 0 = .ok (.iload_n 1, 1) := by decide +kernel
theorem dX6_pastBlanks_1 : decode cX6_pastBlanks 1 = .ok (.istore_n 2, 1) := by decide +kernel
theorem dX6_pastBlanks_2 : decode cX6_pastBlanks 2 = .ok (.iload_n 2, 1) := by decide +kernel
theorem dX6_pastBlanks_3 : decode cX6_pastBlanks 3 = .ok (.aload_n 0, 1) := by decide +kernel
theorem dX6_pastBlanks_4 : decode cX6_pastBlanks 4 = .ok (.getfield 28, 3) := by decide +kernel
theorem dX6_pastBlanks_7 : decode cX6_pastBlanks 7 = .ok (.if_icmp .ge 19, 3) := by decide +kernel
theorem dX6_pastBlanks_10 : decode cX6_pastBlanks 10 = .ok (.aload_n 0, 1) := by decide +kernel
theorem dX6_pastBlanks_11 : decode cX6_pastBlanks 11 = .ok (.iload_n 2, 1) := by decide +kernel
theorem dX6_pastBlanks_12 : decode cX6_pastBlanks 12 = .ok (.invokevirtual 45, 3) := by decide +kernel
theorem dX6_pastBlanks_15 : decode cX6_pastBlanks 15 = .ok (.bipush 32, 2) := by decide +kernel
theorem dX6_pastBlanks_17 : decode cX6_pastBlanks 17 = .ok (.if_icmp .ne 9, 3) := by decide +kernel
theorem dX6_pastBlanks_20 : decode cX6_pastBlanks 20 = .ok (.iinc 2 1, 3) := by decide +kernel
theorem dX6_pastBlanks_23 : decode cX6_pastBlanks 23 = .ok (.goto (-21), 3) := by decide +kernel
theorem dX6_pastBlanks_26 : decode cX6_pastBlanks 26 = .ok (.iload_n 2, 1) := by decide +kernel
theorem dX6_pastBlanks_27 : decode cX6_pastBlanks 27 = .ok (.ireturn, 1) := by decide +kernel
theorem dX6_digestOn_0 : decode cX6_digestOn 0 = .ok (.ldc2_w 52, 3) := by decide +kernel
theorem dX6_digestOn_3 : decode cX6_digestOn 3 = .ok (.lload_n 1, 1) := by decide +kernel
theorem dX6_digestOn_4 : decode cX6_digestOn 4 = .ok (.lmul, 1) := by decide +kernel
theorem dX6_digestOn_5 : decode cX6_digestOn 5 = .ok (.aload_n 0, 1) := by decide +kernel
theorem dX6_digestOn_6 : decode cX6_digestOn 6 = .ok (.getfield 21, 3) := by decide +kernel
theorem dX6_digestOn_9 : decode cX6_digestOn 9 = .ok (.ifCond .eq 10, 3) := by decide +kernel
theorem dX6_digestOn_12 : decode cX6_digestOn 12 = .ok (.aload_n 0, 1) := by decide +kernel
theorem dX6_digestOn_13 : decode cX6_digestOn 13 = .ok (.getfield 28, 3) := by decide +kernel
theorem dX6_digestOn_16 : decode cX6_digestOn 16 = .ok (.goto 4, 3) := by decide +kernel
theorem dX6_digestOn_19 : decode cX6_digestOn 19 = .ok (.iconst (-1), 1) := by decide +kernel
theorem dX6_digestOn_20 : decode cX6_digestOn 20 = .ok (.i2l, 1) := by decide +kernel
theorem dX6_digestOn_21 : decode cX6_digestOn 21 = .ok (.ladd, 1) := by decide +kernel
theorem dX6_digestOn_22 : decode cX6_digestOn 22 = .ok (.lstore_n 3, 1) := by decide +kernel
theorem dX6_digestOn_23 : decode cX6_digestOn 23 = .ok (.iconst 0, 1) := by decide +kernel
theorem dX6_digestOn_24 : decode cX6_digestOn 24 = .ok (.istore 5, 2) := by decide +kernel
theorem dX6_digestOn_26 : decode cX6_digestOn 26 = .ok (.iload 5, 2) := by decide +kernel
theorem dX6_digestOn_28 : decode cX6_digestOn 28 = .ok (.aload_n 0, 1) := by decide +kernel
theorem dX6_digestOn_29 : decode cX6_digestOn 29 = .ok (.getfield 28, 3) := by decide +kernel
theorem dX6_digestOn_32 : decode cX6_digestOn 32 = .ok (.if_icmp .ge 24, 3) := by decide +kernel
theorem dX6_digestOn_35 : decode cX6_digestOn 35 = .ok (.ldc2_w 52, 3) := by decide +kernel
theorem dX6_digestOn_38 : decode cX6_digestOn 38 = .ok (.lload_n 3, 1) := by decide +kernel
theorem dX6_digestOn_39 : decode cX6_digestOn 39 = .ok (.lmul, 1) := by decide +kernel
theorem dX6_digestOn_40 : decode cX6_digestOn 40 = .ok (.aload_n 0, 1) := by decide +kernel
theorem dX6_digestOn_41 : decode cX6_digestOn 41 = .ok (.getfield 15, 3) := by decide +kernel
theorem dX6_digestOn_44 : decode cX6_digestOn 44 = .ok (.iload 5, 2) := by decide +kernel
theorem dX6_digestOn_46 : decode cX6_digestOn 46 = .ok (.iaload, 1) := by decide +kernel
theorem dX6_digestOn_47 : decode cX6_digestOn 47 = .ok (.i2l, 1) := by decide +kernel
theorem dX6_digestOn_48 : decode cX6_digestOn 48 = .ok (.ladd, 1) := by decide +kernel
theorem dX6_digestOn_49 : decode cX6_digestOn 49 = .ok (.lstore_n 3, 1) := by decide +kernel
theorem dX6_digestOn_50 : decode cX6_digestOn 50 = .ok (.iinc 5 1, 3) := by decide +kernel
theorem dX6_digestOn_53 : decode cX6_digestOn 53 = .ok (.goto (-27), 3) := by decide +kernel
theorem dX6_digestOn_56 : decode cX6_digestOn 56 = .ok (.lload_n 3, 1) := by decide +kernel
theorem dX6_digestOn_57 : decode cX6_digestOn 57 = .ok (.lreturn, 1) := by decide +kernel
theorem dX7_init_0 : decode cX7_init 0 = .ok (.aload_n 0, 1) := by decide +kernel
theorem dX7_init_1 : decode cX7_init 1 = .ok (.invokespecial 5, 3) := by decide +kernel
theorem dX7_init_4 : decode cX7_init 4 = .ok (.aload_n 0, 1) := by decide +kernel
theorem dX7_init_5 : decode cX7_init 5 = .ok (.bipush 6, 2) := by decide +kernel
theorem dX7_init_7 : decode cX7_init 7 = .ok (.anewarray 11, 3) := by decide +kernel
theorem dX7_init_10 : decode cX7_init 10 = .ok (.putfield 13, 3) := by decide +kernel
theorem dX7_init_13 : decode cX7_init 13 = .ok (.aload_n 0, 1) := by decide +kernel
theorem dX7_init_14 : decode cX7_init 14 = .ok (.bipush 40, 2) := by decide +kernel
theorem dX7_init_16 : decode cX7_init 16 = .ok (.newarray .int, 2) := by decide +kernel
theorem dX7_init_18 : decode cX7_init 18 = .ok (.putfield 17, 3) := by decide +kernel
theorem dX7_init_21 : decode cX7_init 21 = .ok (.iconst 0, 1) := by decide +kernel
theorem dX7_init_22 : decode cX7_init 22 = .ok (.istore_n 1, 1) := by decide +kernel
theorem dX7_init_23 : decode cX7_init 23 = .ok (.iload_n 1, 1) := by decide +kernel
theorem dX7_init_24 : decode cX7_init 24 = .ok (.bipush 6, 2) := by decide +kernel
theorem dX7_init_26 : decode cX7_init 26 = .ok (.if_icmp .ge 22, 3) := by decide +kernel
theorem dX7_init_29 : decode cX7_init 29 = .ok (.aload_n 0, 1) := by decide +kernel
theorem dX7_init_30 : decode cX7_init 30 = .ok (.getfield 13, 3) := by decide +kernel
theorem dX7_init_33 : decode cX7_init 33 = .ok (.iload_n 1, 1) := by decide +kernel
theorem dX7_init_34 : decode cX7_init 34 = .ok (.new 11, 3) := by decide +kernel
theorem dX7_init_37 : decode cX7_init 37 = .ok (.dup, 1) := by decide +kernel
theorem dX7_init_38 : decode cX7_init 38 = .ok (.invokespecial 21, 3) := by decide +kernel
theorem dX7_init_41 : decode cX7_init 41 = .ok (.aastore, 1) := by decide +kernel
theorem dX7_init_42 : decode cX7_init 42 = .ok (.iinc 1 1, 3) := by decide +kernel
theorem dX7_init_45 : decode cX7_init 45 = .ok (.goto (-22), 3) := by decide +kernel
theorem dX7_init_48 : decode cX7_init 48 = .ok (.return_, 1) := by decide +kernel
theorem dX7_strokeDeed_0 : decode cX7_strokeDeed 0 = .ok (.iload_n 0, 1) := by decide +kernel
theorem dX7_strokeDeed_1 : decode cX7_strokeDeed 1 = .ok (.bipush 7, 2) := by decide +kernel
theorem dX7_strokeDeed_3 : decode cX7_strokeDeed 3 = .ok (.imul, 1) := by decide +kernel
theorem dX7_strokeDeed_4 : decode cX7_strokeDeed 4 = .ok (.iload_n 1, 1) := by decide +kernel
theorem dX7_strokeDeed_5 : decode cX7_strokeDeed 5 = .ok (.iadd, 1) := by decide +kernel
theorem dX7_strokeDeed_6 : decode cX7_strokeDeed 6 = .ok (.ireturn, 1) := by decide +kernel
theorem dX7_mendDeed_0 : decode cX7_mendDeed 0 = .ok (.bipush 42, 2) := by decide +kernel
theorem dX7_mendDeed_2 : decode cX7_mendDeed 2 = .ok (.iload_n 0, 1) := by decide +kernel
theorem dX7_mendDeed_3 : decode cX7_mendDeed 3 = .ok (.iadd, 1) := by decide +kernel
theorem dX7_mendDeed_4 : decode cX7_mendDeed 4 = .ok (.ireturn, 1) := by decide +kernel
theorem dX7_roundDeed_0 : decode cX7_roundDeed 0 = .ok (.iconst 0, 1) := by decide +kernel
theorem dX7_roundDeed_1 : decode cX7_roundDeed 1 = .ok (.istore_n 1, 1) := by decide +kernel
theorem dX7_roundDeed_2 : decode cX7_roundDeed 2 = .ok (.aload_n 0, 1) := by decide +kernel
theorem dX7_roundDeed_3 : decode cX7_roundDeed 3 = .ok (.getfield 22, 3) := by decide +kernel
theorem dX7_roundDeed_6 : decode cX7_roundDeed 6 = .ok (.iconst 1, 1) := by decide +kernel
theorem dX7_roundDeed_7 : decode cX7_roundDeed 7 = .ok (.isub, 1) := by decide +kernel
theorem dX7_roundDeed_8 : decode cX7_roundDeed 8 = .ok (.istore_n 2, 1) := by decide +kernel
theorem dX7_roundDeed_9 : decode cX7_roundDeed 9 = .ok (.iload_n 2, 1) := by decide +kernel
theorem dX7_roundDeed_10 : decode cX7_roundDeed 10 = .ok (.ifCond .lt 21, 3) := by decide +kernel
theorem dX7_roundDeed_13 : decode cX7_roundDeed 13 = .ok (.iload_n 1, 1) := by decide +kernel
theorem dX7_roundDeed_14 : decode cX7_roundDeed 14 = .ok (.bipush 7, 2) := by decide +kernel
theorem dX7_roundDeed_16 : decode cX7_roundDeed 16 = .ok (.imul, 1) := by decide +kernel
theorem dX7_roundDeed_17 : decode cX7_roundDeed 17 = .ok (.aload_n 0, 1) := by decide +kernel
theorem dX7_roundDeed_18 : decode cX7_roundDeed 18 = .ok (.getfield 28, 3) := by decide +kernel
theorem dX7_roundDeed_21 : decode cX7_roundDeed 21 = .ok (.iload_n 2, 1) := by decide +kernel
theorem dX7_roundDeed_22 : decode cX7_roundDeed 22 = .ok (.iaload, 1) := by decide +kernel
theorem dX7_roundDeed_23 : decode cX7_roundDeed 23 = .ok (.iadd, 1) := by decide +kernel
theorem dX7_roundDeed_24 : decode cX7_roundDeed 24 = .ok (.istore_n 1, 1) := by decide +kernel
theorem dX7_roundDeed_25 : decode cX7_roundDeed 25 = .ok (.iinc 2 (-1), 3) := by decide +kernel
theorem dX7_roundDeed_28 : decode cX7_roundDeed 28 = .ok (.goto (-19), 3) := by decide +kernel
theorem dX7_roundDeed_31 : decode cX7_roundDeed 31 = .ok (.bipush 48, 2) := by decide +kernel
theorem dX7_roundDeed_33 : decode cX7_roundDeed 33 = .ok (.iload_n 1, 1) := by decide +kernel
theorem dX7_roundDeed_34 : decode cX7_roundDeed 34 = .ok (.iadd, 1) := by decide +kernel
theorem dX7_roundDeed_35 : decode cX7_roundDeed 35 = .ok (.ireturn, 1) := by decide +kernel
theorem dX7_has_0 : decode cX7_has 0 = .ok (.iload_n 1, 1) := by decide +kernel
theorem dX7_has_1 : decode cX7_has 1 = .ok (.ifCond .lt 15, 3) := by decide +kernel
theorem dX7_has_4 : decode cX7_has 4 = .ok (.iload_n 1, 1) := by decide +kernel
theorem dX7_has_5 : decode cX7_has 5 = .ok (.aload_n 0, 1) := by decide +kernel
theorem dX7_has_6 : decode cX7_has 6 = .ok (.getfield 31, 3) := by decide +kernel
theorem dX7_has_9 : decode cX7_has 9 = .ok (.if_icmp .ge 7, 3) := by decide +kernel
theorem dX7_has_12 : decode cX7_has 12 = .ok (.iconst 1, 1) := by decide +kernel
theorem dX7_has_13 : decode cX7_has 13 = .ok (.goto 4, 3) := by decide +kernel
theorem dX7_has_16 : decode cX7_has 16 = .ok (.iconst 0, 1) := by decide +kernel
theorem dX7_has_17 : decode cX7_has 17 = .ok (.ireturn, 1) := by decide +kernel
theorem dX7_roomLeft_0 : decode cX7_roomLeft 0 = .ok (.bipush 40, 2) := by decide +kernel
theorem dX7_roomLeft_2 : decode cX7_roomLeft 2 = .ok (.aload_n 0, 1) := by decide +kernel
theorem dX7_roomLeft_3 : decode cX7_roomLeft 3 = .ok (.getfield 32, 3) := by decide +kernel
theorem dX7_roomLeft_6 : decode cX7_roomLeft 6 = .ok (.isub, 1) := by decide +kernel
theorem dX7_roomLeft_7 : decode cX7_roomLeft 7 = .ok (.ireturn, 1) := by decide +kernel
theorem dX7_clear_0 : decode cX7_clear 0 = .ok (.aload_n 0, 1) := by decide +kernel
theorem dX7_clear_1 : decode cX7_clear 1 = .ok (.iconst 0, 1) := by decide +kernel
theorem dX7_clear_2 : decode cX7_clear 2 = .ok (.putfield 31, 3) := by decide +kernel
theorem dX7_clear_5 : decode cX7_clear 5 = .ok (.aload_n 0, 1) := by decide +kernel
theorem dX7_clear_6 : decode cX7_clear 6 = .ok (.iconst 0, 1) := by decide +kernel
theorem dX7_clear_7 : decode cX7_clear 7 = .ok (.putfield 35, 3) := by decide +kernel
theorem dX7_clear_10 : decode cX7_clear 10 = .ok (.aload_n 0, 1) := by decide +kernel
theorem dX7_clear_11 : decode cX7_clear 11 = .ok (.iconst 0, 1) := by decide +kernel
theorem dX7_clear_12 : decode cX7_clear 12 = .ok (.putfield 32, 3) := by decide +kernel
theorem dX7_clear_15 : decode cX7_clear 15 = .ok (.return_, 1) := by decide +kernel
theorem dX7_addBell_0 : decode cX7_addBell 0 = .ok (.aload_n 0, 1) := by decide +kernel
theorem dX7_addBell_1 : decode cX7_addBell 1 = .ok (.getfield 31, 3) := by decide +kernel
theorem dX7_addBell_4 : decode cX7_addBell 4 = .ok (.bipush 6, 2) := by decide +kernel
theorem dX7_addBell_6 : decode cX7_addBell 6 = .ok (.if_icmp .ge 28, 3) := by decide +kernel
theorem dX7_addBell_9 : decode cX7_addBell 9 = .ok (.aload_n 0, 1) := by decide +kernel
theorem dX7_addBell_10 : decode cX7_addBell 10 = .ok (.getfield 13, 3) := by decide +kernel
theorem dX7_addBell_13 : decode cX7_addBell 13 = .ok (.aload_n 0, 1) := by decide +kernel
theorem dX7_addBell_14 : decode cX7_addBell 14 = .ok (.getfield 31, 3) := by decide +kernel
theorem dX7_addBell_17 : decode cX7_addBell 17 = .ok (.aaload, 1) := by decide +kernel
theorem dX7_addBell_18 : decode cX7_addBell 18 = .ok (.iload_n 1, 1) := by decide +kernel
theorem dX7_addBell_19 : decode cX7_addBell 19 = .ok (.iload_n 2, 1) := by decide +kernel
theorem dX7_addBell_20 : decode cX7_addBell 20 = .ok (.iload_n 3, 1) := by decide +kernel
theorem dX7_addBell_21 : decode cX7_addBell 21 = .ok (.invokevirtual 38, 3) := by decide +kernel
theorem dX7_addBell_24 : decode cX7_addBell 24 = .ok (.aload_n 0, 1) := by decide +kernel
theorem dX7_addBell_25 : decode cX7_addBell 25 = .ok (.dup, 1) := by decide +kernel
theorem dX7_addBell_26 : decode cX7_addBell 26 = .ok (.getfield 31, 3) := by decide +kernel
theorem dX7_addBell_29 : decode cX7_addBell 29 = .ok (.iconst 1, 1) := by decide +kernel
theorem dX7_addBell_30 : decode cX7_addBell 30 = .ok (.iadd, 1) := by decide +kernel
theorem dX7_addBell_31 : decode cX7_addBell 31 = .ok (.putfield 31, 3) := by decide +kernel
theorem dX7_addBell_34 : decode cX7_addBell 34 = .ok (.return_, 1) := by decide +kernel
theorem dX7_become_0 : decode cX7_become 0 = .ok (.aload_n 0, 1) := by decide +kernel
theorem dX7_become_1 : decode cX7_become 1 = .ok (.aload_n 1, 1) := by decide +kernel
theorem dX7_become_2 : decode cX7_become 2 = .ok (.getfield 31, 3) := by decide +kernel
theorem dX7_become_5 : decode cX7_become 5 = .ok (.putfield 31, 3) := by decide +kernel
theorem dX7_become_8 : decode cX7_become 8 = .ok (.aload_n 0, 1) := by decide +kernel
theorem dX7_become_9 : decode cX7_become 9 = .ok (.aload_n 1, 1) := by decide +kernel
theorem dX7_become_10 : decode cX7_become 10 = .ok (.getfield 35, 3) := by decide +kernel
theorem dX7_become_13 : decode cX7_become 13 = .ok (.putfield 35, 3) := by decide +kernel
theorem dX7_become_16 : decode cX7_become 16 = .ok (.aload_n 0, 1) := by decide +kernel
theorem dX7_become_17 : decode cX7_become 17 = .ok (.aload_n 1, 1) := by decide +kernel
theorem dX7_become_18 : decode cX7_become 18 = .ok (.getfield 32, 3) := by decide +kernel
theorem dX7_become_21 : decode cX7_become 21 = .ok (.putfield 32, 3) := by decide +kernel
theorem dX7_become_24 : decode cX7_become 24 = .ok (.iconst 0, 1) := by decide +kernel
theorem dX7_become_25 : decode cX7_become 25 = .ok (.istore_n 2, 1) := by decide +kernel
theorem dX7_become_26 : decode cX7_become 26 = .ok (.iload_n 2, 1) := by decide +kernel
theorem dX7_become_27 : decode cX7_become 27 = .ok (.aload_n 0, 1) := by decide +kernel
theorem dX7_become_28 : decode cX7_become 28 = .ok (.getfield 31, 3) := by decide +kernel
theorem dX7_become_31 : decode cX7_become 31 = .ok (.if_icmp .ge 24, 3) := by decide +kernel
theorem dX7_become_34 : decode cX7_become 34 = .ok (.aload_n 0, 1) := by decide +kernel
theorem dX7_become_35 : decode cX7_become 35 = .ok (.getfield 13, 3) := by decide +kernel
theorem dX7_become_38 : decode cX7_become 38 = .ok (.iload_n 2, 1) := by decide +kernel
theorem dX7_become_39 : decode cX7_become 39 = .ok (.aaload, 1) := by decide +kernel
theorem dX7_become_40 : decode cX7_become 40 = .ok (.aload_n 1, 1) := by decide +kernel
theorem dX7_become_41 : decode cX7_become 41 = .ok (.getfield 13, 3) := by decide +kernel
theorem dX7_become_44 : decode cX7_become 44 = .ok (.iload_n 2, 1) := by decide +kernel
theorem dX7_become_45 : decode cX7_become 45 = .ok (.aaload, 1) := by decide +kernel
theorem dX7_become_46 : decode cX7_become 46 = .ok (.invokevirtual 42, 3) := by decide +kernel
theorem dX7_become_49 : decode cX7_become 49 = .ok (.iinc 2 1, 3) := by decide +kernel
theorem dX7_become_52 : decode cX7_become 52 = .ok (.goto (-26), 3) := by decide +kernel
theorem dX7_become_55 : decode cX7_become 55 = .ok (.iconst 0, 1) := by decide +kernel
theorem dX7_become_56 : decode cX7_become 56 = .ok (.istore_n 2, 1) := by decide +kernel
theorem dX7_become_57 : decode cX7_become 57 = .ok (.iload_n 2, 1) := by decide +kernel
theorem dX7_become_58 : decode cX7_become 58 = .ok (.aload_n 0, 1) := by decide +kernel
theorem dX7_become_59 : decode cX7_become 59 = .ok (.getfield 32, 3) := by decide +kernel
theorem dX7_become_62 : decode cX7_become 62 = .ok (.if_icmp .ge 21, 3) := by decide +kernel
theorem dX7_become_65 : decode cX7_become 65 = .ok (.aload_n 0, 1) := by decide +kernel
theorem dX7_become_66 : decode cX7_become 66 = .ok (.getfield 17, 3) := by decide +kernel
theorem dX7_become_69 : decode cX7_become 69 = .ok (.iload_n 2, 1) := by decide +kernel
theorem dX7_become_70 : decode cX7_become 70 = .ok (.aload_n 1, 1) := by decide +kernel
theorem dX7_become_71 : decode cX7_become 71 = .ok (.getfield 17, 3) := by decide +kernel
theorem dX7_become_74 : decode cX7_become 74 = .ok (.iload_n 2, 1) := by decide +kernel
theorem dX7_become_75 : decode cX7_become 75 = .ok (.iaload, 1) := by decide +kernel
theorem dX7_become_76 : decode cX7_become 76 = .ok (.iastore, 1) := by decide +kernel
theorem dX7_become_77 : decode cX7_become 77 = .ok (.iinc 2 1, 3) := by decide +kernel
theorem dX7_become_80 : decode cX7_become 80 = .ok (.goto (-23), 3) := by decide +kernel
theorem dX7_become_83 : decode cX7_become 83 = .ok (.return_, 1) := by decide +kernel
theorem dX7_act_0 : decode cX7_act 0 = .ok (.aload_n 0, 1) := by decide +kernel
theorem dX7_act_1 : decode cX7_act 1 = .ok (.getfield 32, 3) := by decide +kernel
theorem dX7_act_4 : decode cX7_act 4 = .ok (.bipush 40, 2) := by decide +kernel
theorem dX7_act_6 : decode cX7_act 6 = .ok (.if_icmp .ge 28, 3) := by decide +kernel
theorem dX7_act_9 : decode cX7_act 9 = .ok (.aload_n 0, 1) := by decide +kernel
theorem dX7_act_10 : decode cX7_act 10 = .ok (.getfield 17, 3) := by decide +kernel
theorem dX7_act_13 : decode cX7_act 13 = .ok (.aload_n 0, 1) := by decide +kernel
theorem dX7_act_14 : decode cX7_act 14 = .ok (.getfield 32, 3) := by decide +kernel
theorem dX7_act_17 : decode cX7_act 17 = .ok (.iload_n 1, 1) := by decide +kernel
theorem dX7_act_18 : decode cX7_act 18 = .ok (.iastore, 1) := by decide +kernel
theorem dX7_act_19 : decode cX7_act 19 = .ok (.aload_n 0, 1) := by decide +kernel
theorem dX7_act_20 : decode cX7_act 20 = .ok (.dup, 1) := by decide +kernel
theorem dX7_act_21 : decode cX7_act 21 = .ok (.getfield 32, 3) := by decide +kernel
theorem dX7_act_24 : decode cX7_act 24 = .ok (.iconst 1, 1) := by decide +kernel
theorem dX7_act_25 : decode cX7_act 25 = .ok (.iadd, 1) := by decide +kernel
theorem dX7_act_26 : decode cX7_act 26 = .ok (.putfield 32, 3) := by decide +kernel
theorem dX7_act_29 : decode cX7_act 29 = .ok (.aload_n 0, 1) := by decide +kernel
theorem dX7_act_30 : decode cX7_act 30 = .ok (.iload_n 1, 1) := by decide +kernel
theorem dX7_act_31 : decode cX7_act 31 = .ok (.invokevirtual 46, 3) := by decide +kernel
theorem dX7_act_34 : decode cX7_act 34 = .ok (.return_, 1) := by decide +kernel
theorem dX7_rewindTo_0 : decode cX7_rewindTo 0 = .ok (.iconst 0, 1) := by decide +kernel
theorem dX7_rewindTo_1 : decode cX7_rewindTo 1 = .ok (.istore_n 2, 1) := by decide +kernel
theorem dX7_rewindTo_2 : decode cX7_rewindTo 2 = .ok (.iload_n 2, 1) := by decide +kernel
theorem dX7_rewindTo_3 : decode cX7_rewindTo 3 = .ok (.aload_n 0, 1) := by decide +kernel
theorem dX7_rewindTo_4 : decode cX7_rewindTo 4 = .ok (.getfield 31, 3) := by decide +kernel
theorem dX7_rewindTo_7 : decode cX7_rewindTo 7 = .ok (.if_icmp .ge 18, 3) := by decide +kernel
theorem dX7_rewindTo_10 : decode cX7_rewindTo 10 = .ok (.aload_n 0, 1) := by decide +kernel
theorem dX7_rewindTo_11 : decode cX7_rewindTo 11 = .ok (.getfield 13, 3) := by decide +kernel
theorem dX7_rewindTo_14 : decode cX7_rewindTo 14 = .ok (.iload_n 2, 1) := by decide +kernel
theorem dX7_rewindTo_15 : decode cX7_rewindTo 15 = .ok (.aaload, 1) := by decide +kernel
theorem dX7_rewindTo_16 : decode cX7_rewindTo 16 = .ok (.invokevirtual 50, 3) := by decide +kernel
theorem dX7_rewindTo_19 : decode cX7_rewindTo 19 = .ok (.iinc 2 1, 3) := by decide +kernel
theorem dX7_rewindTo_22 : decode cX7_rewindTo 22 = .ok (.goto (-20), 3) := by decide +kernel
theorem dX7_rewindTo_25 : decode cX7_rewindTo 25 = .ok (.aload_n 0, 1) := by decide +kernel
theorem dX7_rewindTo_26 : decode cX7_rewindTo 26 = .ok (.iconst 0, 1) := by decide +kernel
theorem dX7_rewindTo_27 : decode cX7_rewindTo 27 = .ok (.iload_n 1, 1) := by decide +kernel
theorem dX7_rewindTo_28 : decode cX7_rewindTo 28 = .ok (.aload_n 0, 1) := by decide +kernel
theorem dX7_rewindTo_29 : decode cX7_rewindTo 29 = .ok (.getfield 32, 3) := by decide +kernel
theorem dX7_rewindTo_32 : decode cX7_rewindTo 32 = .ok (.invokestatic 53, 3) := by decide +kernel
theorem dX7_rewindTo_35 : decode cX7_rewindTo 35 = .ok (.invokestatic 59, 3) := by decide +kernel
theorem dX7_rewindTo_38 : decode cX7_rewindTo 38 = .ok (.putfield 32, 3) := by decide +kernel
theorem dX7_rewindTo_41 : decode cX7_rewindTo 41 = .ok (.iconst 0, 1) := by decide +kernel
theorem dX7_rewindTo_42 : decode cX7_rewindTo 42 = .ok (.istore_n 2, 1) := by decide +kernel
theorem dX7_rewindTo_43 : decode cX7_rewindTo 43 = .ok (.iload_n 2, 1) := by decide +kernel
theorem dX7_rewindTo_44 : decode cX7_rewindTo 44 = .ok (.aload_n 0, 1) := by decide +kernel
theorem dX7_rewindTo_45 : decode cX7_rewindTo 45 = .ok (.getfield 32, 3) := by decide +kernel
theorem dX7_rewindTo_48 : decode cX7_rewindTo 48 = .ok (.if_icmp .ge 19, 3) := by decide +kernel
theorem dX7_rewindTo_51 : decode cX7_rewindTo 51 = .ok (.aload_n 0, 1) := by decide +kernel
theorem dX7_rewindTo_52 : decode cX7_rewindTo 52 = .ok (.aload_n 0, 1) := by decide +kernel
theorem dX7_rewindTo_53 : decode cX7_rewindTo 53 = .ok (.getfield 17, 3) := by decide +kernel
theorem dX7_rewindTo_56 : decode cX7_rewindTo 56 = .ok (.iload_n 2, 1) := by decide +kernel
theorem dX7_rewindTo_57 : decode cX7_rewindTo 57 = .ok (.iaload, 1) := by decide +kernel
theorem dX7_rewindTo_58 : decode cX7_rewindTo 58 = .ok (.invokevirtual 46, 3) := by decide +kernel
theorem dX7_rewindTo_61 : decode cX7_rewindTo 61 = .ok (.iinc 2 1, 3) := by decide +kernel
theorem dX7_rewindTo_64 : decode cX7_rewindTo 64 = .ok (.goto (-21), 3) := by decide +kernel
theorem dX7_rewindTo_67 : decode cX7_rewindTo 67 = .ok (.return_, 1) := by decide +kernel
theorem dX7_perform_0 : decode cX7_perform 0 = .ok (.iload_n 1, 1) := by decide +kernel
theorem dX7_perform_1 : decode cX7_perform 1 = .ok (.bipush 48, 2) := by decide +kernel
theorem dX7_perform_3 : decode cX7_perform 3 = .ok (.if_icmp .lt 45, 3) := by decide +kernel
theorem dX7_perform_6 : decode cX7_perform 6 = .ok (.iload_n 1, 1) := by decide +kernel
theorem dX7_perform_7 : decode cX7_perform 7 = .ok (.bipush 48, 2) := by decide +kernel
theorem dX7_perform_9 : decode cX7_perform 9 = .ok (.isub, 1) := by decide +kernel
theorem dX7_perform_10 : decode cX7_perform 10 = .ok (.istore_n 2, 1) := by decide +kernel
theorem dX7_perform_11 : decode cX7_perform 11 = .ok (.iconst 0, 1) := by decide +kernel
theorem dX7_perform_12 : decode cX7_perform 12 = .ok (.istore_n 3, 1) := by decide +kernel
theorem dX7_perform_13 : decode cX7_perform 13 = .ok (.iload_n 3, 1) := by decide +kernel
theorem dX7_perform_14 : decode cX7_perform 14 = .ok (.aload_n 0, 1) := by decide +kernel
theorem dX7_perform_15 : decode cX7_perform 15 = .ok (.getfield 31, 3) := by decide +kernel
theorem dX7_perform_18 : decode cX7_perform 18 = .ok (.if_icmp .ge 27, 3) := by decide +kernel
theorem dX7_perform_21 : decode cX7_perform 21 = .ok (.aload_n 0, 1) := by decide +kernel
theorem dX7_perform_22 : decode cX7_perform 22 = .ok (.getfield 13, 3) := by decide +kernel
theorem dX7_perform_25 : decode cX7_perform 25 = .ok (.iload_n 3, 1) := by decide +kernel
theorem dX7_perform_26 : decode cX7_perform 26 = .ok (.aaload, 1) := by decide +kernel
theorem dX7_perform_27 : decode cX7_perform 27 = .ok (.iload_n 2, 1) := by decide +kernel
theorem dX7_perform_28 : decode cX7_perform 28 = .ok (.bipush 7, 2) := by decide +kernel
theorem dX7_perform_30 : decode cX7_perform 30 = .ok (.irem, 1) := by decide +kernel
theorem dX7_perform_31 : decode cX7_perform 31 = .ok (.invokevirtual 62, 3) := by decide +kernel
theorem dX7_perform_34 : decode cX7_perform 34 = .ok (.iload_n 2, 1) := by decide +kernel
theorem dX7_perform_35 : decode cX7_perform 35 = .ok (.bipush 7, 2) := by decide +kernel
theorem dX7_perform_37 : decode cX7_perform 37 = .ok (.idiv, 1) := by decide +kernel
theorem dX7_perform_38 : decode cX7_perform 38 = .ok (.istore_n 2, 1) := by decide +kernel
theorem dX7_perform_39 : decode cX7_perform 39 = .ok (.iinc 3 1, 3) := by decide +kernel
theorem dX7_perform_42 : decode cX7_perform 42 = .ok (.goto (-29), 3) := by decide +kernel
theorem dX7_perform_45 : decode cX7_perform 45 = .ok (.goto 62, 3) := by decide +kernel
theorem dX7_perform_48 : decode cX7_perform 48 = .ok (.iload_n 1, 1) := by decide +kernel
theorem dX7_perform_49 : decode cX7_perform 49 = .ok (.bipush 42, 2) := by decide +kernel
theorem dX7_perform_51 : decode cX7_perform 51 = .ok (.if_icmp .lt 29, 3) := by decide +kernel
theorem dX7_perform_54 : decode cX7_perform 54 = .ok (.aload_n 0, 1) := by decide +kernel
theorem dX7_perform_55 : decode cX7_perform 55 = .ok (.iload_n 1, 1) := by decide +kernel
theorem dX7_perform_56 : decode cX7_perform 56 = .ok (.bipush 42, 2) := by decide +kernel
theorem dX7_perform_58 : decode cX7_perform 58 = .ok (.isub, 1) := by decide +kernel
theorem dX7_perform_59 : decode cX7_perform 59 = .ok (.invokevirtual 65, 3) := by decide +kernel
theorem dX7_perform_62 : decode cX7_perform 62 = .ok (.ifCond .eq 45, 3) := by decide +kernel
theorem dX7_perform_65 : decode cX7_perform 65 = .ok (.aload_n 0, 1) := by decide +kernel
theorem dX7_perform_66 : decode cX7_perform 66 = .ok (.getfield 13, 3) := by decide +kernel
theorem dX7_perform_69 : decode cX7_perform 69 = .ok (.iload_n 1, 1) := by decide +kernel
theorem dX7_perform_70 : decode cX7_perform 70 = .ok (.bipush 42, 2) := by decide +kernel
theorem dX7_perform_72 : decode cX7_perform 72 = .ok (.isub, 1) := by decide +kernel
theorem dX7_perform_73 : decode cX7_perform 73 = .ok (.aaload, 1) := by decide +kernel
theorem dX7_perform_74 : decode cX7_perform 74 = .ok (.invokevirtual 69, 3) := by decide +kernel
theorem dX7_perform_77 : decode cX7_perform 77 = .ok (.goto 30, 3) := by decide +kernel
theorem dX7_perform_80 : decode cX7_perform 80 = .ok (.aload_n 0, 1) := by decide +kernel
theorem dX7_perform_81 : decode cX7_perform 81 = .ok (.iload_n 1, 1) := by decide +kernel
theorem dX7_perform_82 : decode cX7_perform 82 = .ok (.bipush 7, 2) := by decide +kernel
theorem dX7_perform_84 : decode cX7_perform 84 = .ok (.idiv, 1) := by decide +kernel
theorem dX7_perform_85 : decode cX7_perform 85 = .ok (.invokevirtual 65, 3) := by decide +kernel
theorem dX7_perform_88 : decode cX7_perform 88 = .ok (.ifCond .eq 19, 3) := by decide +kernel
theorem dX7_perform_91 : decode cX7_perform 91 = .ok (.aload_n 0, 1) := by decide +kernel
theorem dX7_perform_92 : decode cX7_perform 92 = .ok (.getfield 13, 3) := by decide +kernel
theorem dX7_perform_95 : decode cX7_perform 95 = .ok (.iload_n 1, 1) := by decide +kernel
theorem dX7_perform_96 : decode cX7_perform 96 = .ok (.bipush 7, 2) := by decide +kernel
theorem dX7_perform_98 : decode cX7_perform 98 = .ok (.idiv, 1) := by decide +kernel
theorem dX7_perform_99 : decode cX7_perform 99 = .ok (.aaload, 1) := by decide +kernel
theorem dX7_perform_100 : decode cX7_perform 100 = .ok (.iload_n 1, 1) := by decide +kernel
theorem dX7_perform_101 : decode cX7_perform 101 = .ok (.bipush 7, 2) := by decide +kernel
theorem dX7_perform_103 : decode cX7_perform 103 = .ok (.irem, 1) := by decide +kernel
theorem dX7_perform_104 : decode cX7_perform 104 = .ok (.invokevirtual 62, 3) := by decide +kernel
theorem dX7_perform_107 : decode cX7_perform 107 = .ok (.return_, 1) := by decide +kernel
theorem dX7_tenthsBy_0 : decode cX7_tenthsBy 0 = .ok (.aload_n 0, 1) := by decide +kernel
theorem dX7_tenthsBy_1 : decode cX7_tenthsBy 1 = .ok (.iload_n 1, 1) := by decide +kernel
theorem dX7_tenthsBy_2 : decode cX7_tenthsBy 2 = .ok (.invokevirtual 65, 3) := by decide +kernel
theorem dX7_tenthsBy_5 : decode cX7_tenthsBy 5 = .ok (.ifCond .ne 6, 3) := by decide +kernel
theorem dX7_tenthsBy_8 : decode cX7_tenthsBy 8 = .ok (.bipush (-9), 2) := by decide +kernel
theorem dX7_tenthsBy_10 : decode cX7_tenthsBy 10 = .ok (.ireturn, 1) := by decide +kernel
theorem dX7_tenthsBy_11 : decode cX7_tenthsBy 11 = .ok (.aload_n 0, 1) := by decide +kernel
theorem dX7_tenthsBy_12 : decode cX7_tenthsBy 12 = .ok (.getfield 13, 3) := by decide +kernel
theorem dX7_tenthsBy_15 : decode cX7_tenthsBy 15 = .ok (.iload_n 1, 1) := by decide +kernel
theorem dX7_tenthsBy_16 : decode cX7_tenthsBy 16 = .ok (.aaload, 1) := by decide +kernel
theorem dX7_tenthsBy_17 : decode cX7_tenthsBy 17 = .ok (.astore_n 3, 1) := by decide +kernel
theorem dX7_tenthsBy_18 : decode cX7_tenthsBy 18 = .ok (.aload_n 3, 1) := by decide +kernel
theorem dX7_tenthsBy_19 : decode cX7_tenthsBy 19 = .ok (.getfield 72, 3) := by decide +kernel
theorem dX7_tenthsBy_22 : decode cX7_tenthsBy 22 = .ok (.aload_n 3, 1) := by decide +kernel
theorem dX7_tenthsBy_23 : decode cX7_tenthsBy 23 = .ok (.getfield 75, 3) := by decide +kernel
theorem dX7_tenthsBy_26 : decode cX7_tenthsBy 26 = .ok (.aload_n 0, 1) := by decide +kernel
theorem dX7_tenthsBy_27 : decode cX7_tenthsBy 27 = .ok (.getfield 35, 3) := by decide +kernel
theorem dX7_tenthsBy_30 : decode cX7_tenthsBy 30 = .ok (.aload_n 3, 1) := by decide +kernel
theorem dX7_tenthsBy_31 : decode cX7_tenthsBy 31 = .ok (.getfield 72, 3) := by decide +kernel
theorem dX7_tenthsBy_34 : decode cX7_tenthsBy 34 = .ok (.aload_n 3, 1) := by decide +kernel
theorem dX7_tenthsBy_35 : decode cX7_tenthsBy 35 = .ok (.getfield 78, 3) := by decide +kernel
theorem dX7_tenthsBy_38 : decode cX7_tenthsBy 38 = .ok (.iload_n 2, 1) := by decide +kernel
theorem dX7_tenthsBy_39 : decode cX7_tenthsBy 39 = .ok (.invokestatic 81, 3) := by decide +kernel
theorem dX7_tenthsBy_42 : decode cX7_tenthsBy 42 = .ok (.invokestatic 85, 3) := by decide +kernel
theorem dX7_tenthsBy_45 : decode cX7_tenthsBy 45 = .ok (.ireturn, 1) := by decide +kernel
theorem dX7_ringing_0 : decode cX7_ringing 0 = .ok (.aload_n 0, 1) := by decide +kernel
theorem dX7_ringing_1 : decode cX7_ringing 1 = .ok (.getfield 31, 3) := by decide +kernel
theorem dX7_ringing_4 : decode cX7_ringing 4 = .ok (.aload_n 0, 1) := by decide +kernel
theorem dX7_ringing_5 : decode cX7_ringing 5 = .ok (.invokevirtual 89, 3) := by decide +kernel
theorem dX7_ringing_8 : decode cX7_ringing 8 = .ok (.invokestatic 93, 3) := by decide +kernel
theorem dX7_ringing_11 : decode cX7_ringing 11 = .ok (.isub, 1) := by decide +kernel
theorem dX7_ringing_12 : decode cX7_ringing 12 = .ok (.ireturn, 1) := by decide +kernel
theorem dX7_overBits_0 : decode cX7_overBits 0 = .ok (.iconst 0, 1) := by decide +kernel
theorem dX7_overBits_1 : decode cX7_overBits 1 = .ok (.istore_n 1, 1) := by decide +kernel
theorem dX7_overBits_2 : decode cX7_overBits 2 = .ok (.iconst 0, 1) := by decide +kernel
theorem dX7_overBits_3 : decode cX7_overBits 3 = .ok (.istore_n 2, 1) := by decide +kernel
theorem dX7_overBits_4 : decode cX7_overBits 4 = .ok (.iload_n 2, 1) := by decide +kernel
theorem dX7_overBits_5 : decode cX7_overBits 5 = .ok (.aload_n 0, 1) := by decide +kernel
theorem dX7_overBits_6 : decode cX7_overBits 6 = .ok (.getfield 31, 3) := by decide +kernel
theorem dX7_overBits_9 : decode cX7_overBits 9 = .ok (.if_icmp .ge 27, 3) := by decide +kernel
theorem dX7_overBits_12 : decode cX7_overBits 12 = .ok (.aload_n 0, 1) := by decide +kernel
theorem dX7_overBits_13 : decode cX7_overBits 13 = .ok (.getfield 13, 3) := by decide +kernel
theorem dX7_overBits_16 : decode cX7_overBits 16 = .ok (.iload_n 2, 1) := by decide +kernel
theorem dX7_overBits_17 : decode cX7_overBits 17 = .ok (.aaload, 1) := by decide +kernel
theorem dX7_overBits_18 : decode cX7_overBits 18 = .ok (.getfield 99, 3) := by decide +kernel
theorem dX7_overBits_21 : decode cX7_overBits 21 = .ok (.ifCond .eq 9, 3) := by decide +kernel
theorem dX7_overBits_24 : decode cX7_overBits 24 = .ok (.iload_n 1, 1) := by decide +kernel
theorem dX7_overBits_25 : decode cX7_overBits 25 = .ok (.iconst 1, 1) := by decide +kernel
theorem dX7_overBits_26 : decode cX7_overBits 26 = .ok (.iload_n 2, 1) := by decide +kernel
theorem dX7_overBits_27 : decode cX7_overBits 27 = .ok (.ishl, 1) := by decide +kernel
theorem dX7_overBits_28 : decode cX7_overBits 28 = .ok (.ior, 1) := by decide +kernel
theorem dX7_overBits_29 : decode cX7_overBits 29 = .ok (.istore_n 1, 1) := by decide +kernel
theorem dX7_overBits_30 : decode cX7_overBits 30 = .ok (.iinc 2 1, 3) := by decide +kernel
theorem dX7_overBits_33 : decode cX7_overBits 33 = .ok (.goto (-29), 3) := by decide +kernel
theorem dX7_overBits_36 : decode cX7_overBits 36 = .ok (.iload_n 1, 1) := by decide +kernel
theorem dX7_overBits_37 : decode cX7_overBits 37 = .ok (.ireturn, 1) := by decide +kernel
theorem dX7_standing_0 : decode cX7_standing 0 = .ok (.iconst 0, 1) := by decide +kernel
theorem dX7_standing_1 : decode cX7_standing 1 = .ok (.istore_n 1, 1) := by decide +kernel
theorem dX7_standing_2 : decode cX7_standing 2 = .ok (.iconst 0, 1) := by decide +kernel
theorem dX7_standing_3 : decode cX7_standing 3 = .ok (.istore_n 2, 1) := by decide +kernel
theorem dX7_standing_4 : decode cX7_standing 4 = .ok (.iload_n 2, 1) := by decide +kernel
theorem dX7_standing_5 : decode cX7_standing 5 = .ok (.aload_n 0, 1) := by decide +kernel
theorem dX7_standing_6 : decode cX7_standing 6 = .ok (.getfield 31, 3) := by decide +kernel
theorem dX7_standing_9 : decode cX7_standing 9 = .ok (.if_icmp .ge 22, 3) := by decide +kernel
theorem dX7_standing_12 : decode cX7_standing 12 = .ok (.iload_n 1, 1) := by decide +kernel
theorem dX7_standing_13 : decode cX7_standing 13 = .ok (.aload_n 0, 1) := by decide +kernel
theorem dX7_standing_14 : decode cX7_standing 14 = .ok (.getfield 13, 3) := by decide +kernel
theorem dX7_standing_17 : decode cX7_standing 17 = .ok (.iload_n 2, 1) := by decide +kernel
theorem dX7_standing_18 : decode cX7_standing 18 = .ok (.aaload, 1) := by decide +kernel
theorem dX7_standing_19 : decode cX7_standing 19 = .ok (.iconst 4, 1) := by decide +kernel
theorem dX7_standing_20 : decode cX7_standing 20 = .ok (.invokevirtual 103, 3) := by decide +kernel
theorem dX7_standing_23 : decode cX7_standing 23 = .ok (.iadd, 1) := by decide +kernel
theorem dX7_standing_24 : decode cX7_standing 24 = .ok (.istore_n 1, 1) := by decide +kernel
theorem dX7_standing_25 : decode cX7_standing 25 = .ok (.iinc 2 1, 3) := by decide +kernel
theorem dX7_standing_28 : decode cX7_standing 28 = .ok (.goto (-24), 3) := by decide +kernel
theorem dX7_standing_31 : decode cX7_standing 31 = .ok (.iload_n 1, 1) := by decide +kernel
theorem dX7_standing_32 : decode cX7_standing 32 = .ok (.ireturn, 1) := by decide +kernel
theorem dX7_heavyOnes_0 : decode cX7_heavyOnes 0 = .ok (.iconst 0, 1) := by decide +kernel
theorem dX7_heavyOnes_1 : decode cX7_heavyOnes 1 = .ok (.istore_n 1, 1) := by decide +kernel
theorem dX7_heavyOnes_2 : decode cX7_heavyOnes 2 = .ok (.iconst 0, 1) := by decide +kernel
theorem dX7_heavyOnes_3 : decode cX7_heavyOnes 3 = .ok (.istore_n 2, 1) := by decide +kernel
theorem dX7_heavyOnes_4 : decode cX7_heavyOnes 4 = .ok (.iload_n 2, 1) := by decide +kernel
theorem dX7_heavyOnes_5 : decode cX7_heavyOnes 5 = .ok (.aload_n 0, 1) := by decide +kernel
theorem dX7_heavyOnes_6 : decode cX7_heavyOnes 6 = .ok (.getfield 31, 3) := by decide +kernel
theorem dX7_heavyOnes_9 : decode cX7_heavyOnes 9 = .ok (.if_icmp .ge 28, 3) := by decide +kernel
theorem dX7_heavyOnes_12 : decode cX7_heavyOnes 12 = .ok (.aload_n 0, 1) := by decide +kernel
theorem dX7_heavyOnes_13 : decode cX7_heavyOnes 13 = .ok (.getfield 13, 3) := by decide +kernel
theorem dX7_heavyOnes_16 : decode cX7_heavyOnes 16 = .ok (.iload_n 2, 1) := by decide +kernel
theorem dX7_heavyOnes_17 : decode cX7_heavyOnes 17 = .ok (.aaload, 1) := by decide +kernel
theorem dX7_heavyOnes_18 : decode cX7_heavyOnes 18 = .ok (.getfield 72, 3) := by decide +kernel
theorem dX7_heavyOnes_21 : decode cX7_heavyOnes 21 = .ok (.iconst 1, 1) := by decide +kernel
theorem dX7_heavyOnes_22 : decode cX7_heavyOnes 22 = .ok (.invokestatic 106, 3) := by decide +kernel
theorem dX7_heavyOnes_25 : decode cX7_heavyOnes 25 = .ok (.ifCond .eq 6, 3) := by decide +kernel
theorem dX7_heavyOnes_28 : decode cX7_heavyOnes 28 = .ok (.iinc 1 1, 3) := by decide +kernel
theorem dX7_heavyOnes_31 : decode cX7_heavyOnes 31 = .ok (.iinc 2 1, 3) := by decide +kernel
theorem dX7_heavyOnes_34 : decode cX7_heavyOnes 34 = .ok (.goto (-30), 3) := by decide +kernel
theorem dX7_heavyOnes_37 : decode cX7_heavyOnes 37 = .ok (.iload_n 1, 1) := by decide +kernel
theorem dX7_heavyOnes_38 : decode cX7_heavyOnes 38 = .ok (.ireturn, 1) := by decide +kernel
theorem dX7_isOrder_0 : decode cX7_isOrder 0 = .ok (.aload_n 0, 1) := by decide +kernel
theorem dX7_isOrder_1 : decode cX7_isOrder 1 = .ok (.invokevirtual 89, 3) := by decide +kernel
theorem dX7_isOrder_4 : decode cX7_isOrder 4 = .ok (.istore_n 2, 1) := by decide +kernel
theorem dX7_isOrder_5 : decode cX7_isOrder 5 = .ok (.iconst 0, 1) := by decide +kernel
theorem dX7_isOrder_6 : decode cX7_isOrder 6 = .ok (.istore_n 3, 1) := by decide +kernel
theorem dX7_isOrder_7 : decode cX7_isOrder 7 = .ok (.iload_n 3, 1) := by decide +kernel
theorem dX7_isOrder_8 : decode cX7_isOrder 8 = .ok (.aload_n 1, 1) := by decide +kernel
theorem dX7_isOrder_9 : decode cX7_isOrder 9 = .ok (.getfield 22, 3) := by decide +kernel
theorem dX7_isOrder_12 : decode cX7_isOrder 12 = .ok (.if_icmp .ge 44, 3) := by decide +kernel
theorem dX7_isOrder_15 : decode cX7_isOrder 15 = .ok (.aload_n 1, 1) := by decide +kernel
theorem dX7_isOrder_16 : decode cX7_isOrder 16 = .ok (.getfield 28, 3) := by decide +kernel
theorem dX7_isOrder_19 : decode cX7_isOrder 19 = .ok (.iload_n 3, 1) := by decide +kernel
theorem dX7_isOrder_20 : decode cX7_isOrder 20 = .ok (.iaload, 1) := by decide +kernel
theorem dX7_isOrder_21 : decode cX7_isOrder 21 = .ok (.istore 4, 2) := by decide +kernel
theorem dX7_isOrder_23 : decode cX7_isOrder 23 = .ok (.aload_n 0, 1) := by decide +kernel
theorem dX7_isOrder_24 : decode cX7_isOrder 24 = .ok (.iload 4, 2) := by decide +kernel
theorem dX7_isOrder_26 : decode cX7_isOrder 26 = .ok (.invokevirtual 65, 3) := by decide +kernel
theorem dX7_isOrder_29 : decode cX7_isOrder 29 = .ok (.ifCond .eq 12, 3) := by decide +kernel
theorem dX7_isOrder_32 : decode cX7_isOrder 32 = .ok (.iload_n 2, 1) := by decide +kernel
theorem dX7_isOrder_33 : decode cX7_isOrder 33 = .ok (.iload 4, 2) := by decide +kernel
theorem dX7_isOrder_35 : decode cX7_isOrder 35 = .ok (.ishr, 1) := by decide +kernel
theorem dX7_isOrder_36 : decode cX7_isOrder 36 = .ok (.iconst 1, 1) := by decide +kernel
theorem dX7_isOrder_37 : decode cX7_isOrder 37 = .ok (.iand, 1) := by decide +kernel
theorem dX7_isOrder_38 : decode cX7_isOrder 38 = .ok (.ifCond .eq 5, 3) := by decide +kernel
theorem dX7_isOrder_41 : decode cX7_isOrder 41 = .ok (.iconst 0, 1) := by decide +kernel
theorem dX7_isOrder_42 : decode cX7_isOrder 42 = .ok (.ireturn, 1) := by decide +kernel
theorem dX7_isOrder_43 : decode cX7_isOrder 43 = .ok (.iload_n 2, 1) := by decide +kernel
theorem dX7_isOrder_44 : decode cX7_isOrder 44 = .ok (.iconst 1, 1) := by decide +kernel
theorem dX7_isOrder_45 : decode cX7_isOrder 45 = .ok (.iload 4, 2) := by decide +kernel
theorem dX7_isOrder_47 : decode cX7_isOrder 47 = .ok (.ishl, 1) := by decide +kernel
theorem dX7_isOrder_48 : decode cX7_isOrder 48 = .ok (.ior, 1) := by decide +kernel
theorem dX7_isOrder_49 : decode cX7_isOrder 49 = .ok (.istore_n 2, 1) := by decide +kernel
theorem dX7_isOrder_50 : decode cX7_isOrder 50 = .ok (.iinc 3 1, 3) := by decide +kernel
theorem dX7_isOrder_53 : decode cX7_isOrder 53 = .ok (.goto (-46), 3) := by decide +kernel
theorem dX7_isOrder_56 : decode cX7_isOrder 56 = .ok (.iconst 1, 1) := by decide +kernel
theorem dX7_isOrder_57 : decode cX7_isOrder 57 = .ok (.ireturn, 1) := by decide +kernel
theorem dX7_rankBy_0 : decode cX7_rankBy 0 = .ok (.aload_n 0, 1) := by decide +kernel
theorem dX7_rankBy_1 : decode cX7_rankBy 1 = .ok (.iload_n 1, 1) := by decide +kernel
theorem dX7_rankBy_2 : decode cX7_rankBy 2 = .ok (.iload_n 2, 1) := by decide +kernel
theorem dX7_rankBy_3 : decode cX7_rankBy 3 = .ok (.invokevirtual 110, 3) := by decide +kernel
theorem dX7_rankBy_6 : decode cX7_rankBy 6 = .ok (.istore_n 3, 1) := by decide +kernel
theorem dX7_rankBy_7 : decode cX7_rankBy 7 = .ok (.iload_n 3, 1) := by decide +kernel
theorem dX7_rankBy_8 : decode cX7_rankBy 8 = .ok (.bipush (-9), 2) := by decide +kernel
theorem dX7_rankBy_10 : decode cX7_rankBy 10 = .ok (.if_icmp .ne 8, 3) := by decide +kernel
theorem dX7_rankBy_13 : decode cX7_rankBy 13 = .ok (.bipush (-9), 2) := by decide +kernel
theorem dX7_rankBy_15 : decode cX7_rankBy 15 = .ok (.goto 13, 3) := by decide +kernel
theorem dX7_rankBy_18 : decode cX7_rankBy 18 = .ok (.iconst 2, 1) := by decide +kernel
theorem dX7_rankBy_19 : decode cX7_rankBy 19 = .ok (.iload_n 1, 1) := by decide +kernel
theorem dX7_rankBy_20 : decode cX7_rankBy 20 = .ok (.imul, 1) := by decide +kernel
theorem dX7_rankBy_21 : decode cX7_rankBy 21 = .ok (.iload_n 3, 1) := by decide +kernel
theorem dX7_rankBy_22 : decode cX7_rankBy 22 = .ok (.iadd, 1) := by decide +kernel
theorem dX7_rankBy_23 : decode cX7_rankBy 23 = .ok (.bipush 6, 2) := by decide +kernel
theorem dX7_rankBy_25 : decode cX7_rankBy 25 = .ok (.imul, 1) := by decide +kernel
theorem dX7_rankBy_26 : decode cX7_rankBy 26 = .ok (.iload_n 1, 1) := by decide +kernel
theorem dX7_rankBy_27 : decode cX7_rankBy 27 = .ok (.iadd, 1) := by decide +kernel
theorem dX7_rankBy_28 : decode cX7_rankBy 28 = .ok (.ireturn, 1) := by decide +kernel
theorem dX7_soonestPull_0 : decode cX7_soonestPull 0 = .ok (.iconst 0, 1) := by decide +kernel
theorem dX7_soonestPull_1 : decode cX7_soonestPull 1 = .ok (.istore_n 3, 1) := by decide +kernel
theorem dX7_soonestPull_2 : decode cX7_soonestPull 2 = .ok (.iload_n 3, 1) := by decide +kernel
theorem dX7_soonestPull_3 : decode cX7_soonestPull 3 = .ok (.bipush 7, 2) := by decide +kernel
theorem dX7_soonestPull_5 : decode cX7_soonestPull 5 = .ok (.if_icmp .ge 21, 3) := by decide +kernel
theorem dX7_soonestPull_8 : decode cX7_soonestPull 8 = .ok (.aload_n 0, 1) := by decide +kernel
theorem dX7_soonestPull_9 : decode cX7_soonestPull 9 = .ok (.iload_n 1, 1) := by decide +kernel
theorem dX7_soonestPull_10 : decode cX7_soonestPull 10 = .ok (.iload_n 3, 1) := by decide +kernel
theorem dX7_soonestPull_11 : decode cX7_soonestPull 11 = .ok (.invokevirtual 113, 3) := by decide +kernel
theorem dX7_soonestPull_14 : decode cX7_soonestPull 14 = .ok (.iload_n 2, 1) := by decide +kernel
theorem dX7_soonestPull_15 : decode cX7_soonestPull 15 = .ok (.if_icmp .le 5, 3) := by decide +kernel
theorem dX7_soonestPull_18 : decode cX7_soonestPull 18 = .ok (.iload_n 3, 1) := by decide +kernel
theorem dX7_soonestPull_19 : decode cX7_soonestPull 19 = .ok (.ireturn, 1) := by decide +kernel
theorem dX7_soonestPull_20 : decode cX7_soonestPull 20 = .ok (.iinc 3 1, 3) := by decide +kernel
theorem dX7_soonestPull_23 : decode cX7_soonestPull 23 = .ok (.goto (-21), 3) := by decide +kernel
theorem dX7_soonestPull_26 : decode cX7_soonestPull 26 = .ok (.bipush (-9), 2) := by decide +kernel
theorem dX7_soonestPull_28 : decode cX7_soonestPull 28 = .ok (.ireturn, 1) := by decide +kernel
theorem dX7_ordersBehind_0 : decode cX7_ordersBehind 0 = .ok (.iload_n 1, 1) := by decide +kernel
theorem dX7_ordersBehind_1 : decode cX7_ordersBehind 1 = .ok (.iconst 1, 1) := by decide +kernel
theorem dX7_ordersBehind_2 : decode cX7_ordersBehind 2 = .ok (.aload_n 0, 1) := by decide +kernel
theorem dX7_ordersBehind_3 : decode cX7_ordersBehind 3 = .ok (.getfield 31, 3) := by decide +kernel
theorem dX7_ordersBehind_6 : decode cX7_ordersBehind 6 = .ok (.ishl, 1) := by decide +kernel
theorem dX7_ordersBehind_7 : decode cX7_ordersBehind 7 = .ok (.iconst 1, 1) := by decide +kernel
theorem dX7_ordersBehind_8 : decode cX7_ordersBehind 8 = .ok (.isub, 1) := by decide +kernel
theorem dX7_ordersBehind_9 : decode cX7_ordersBehind 9 = .ok (.if_icmp .eq 9, 3) := by decide +kernel
theorem dX7_ordersBehind_12 : decode cX7_ordersBehind 12 = .ok (.iload_n 3, 1) := by decide +kernel
theorem dX7_ordersBehind_13 : decode cX7_ordersBehind 13 = .ok (.bipush 6, 2) := by decide +kernel
theorem dX7_ordersBehind_15 : decode cX7_ordersBehind 15 = .ok (.if_icmp .le 5, 3) := by decide +kernel
theorem dX7_ordersBehind_18 : decode cX7_ordersBehind 18 = .ok (.iconst 1, 1) := by decide +kernel
theorem dX7_ordersBehind_19 : decode cX7_ordersBehind 19 = .ok (.ireturn, 1) := by decide +kernel
theorem dX7_ordersBehind_20 : decode cX7_ordersBehind 20 = .ok (.iconst 0, 1) := by decide +kernel
theorem dX7_ordersBehind_21 : decode cX7_ordersBehind 21 = .ok (.istore 4, 2) := by decide +kernel
theorem dX7_ordersBehind_23 : decode cX7_ordersBehind 23 = .ok (.iconst 0, 1) := by decide +kernel
theorem dX7_ordersBehind_24 : decode cX7_ordersBehind 24 = .ok (.istore 5, 2) := by decide +kernel
theorem dX7_ordersBehind_26 : decode cX7_ordersBehind 26 = .ok (.iload 5, 2) := by decide +kernel
theorem dX7_ordersBehind_28 : decode cX7_ordersBehind 28 = .ok (.aload_n 0, 1) := by decide +kernel
theorem dX7_ordersBehind_29 : decode cX7_ordersBehind 29 = .ok (.getfield 31, 3) := by decide +kernel
theorem dX7_ordersBehind_32 : decode cX7_ordersBehind 32 = .ok (.if_icmp .ge 65, 3) := by decide +kernel
theorem dX7_ordersBehind_35 : decode cX7_ordersBehind 35 = .ok (.iload_n 1, 1) := by decide +kernel
theorem dX7_ordersBehind_36 : decode cX7_ordersBehind 36 = .ok (.iload 5, 2) := by decide +kernel
theorem dX7_ordersBehind_38 : decode cX7_ordersBehind 38 = .ok (.ishr, 1) := by decide +kernel
theorem dX7_ordersBehind_39 : decode cX7_ordersBehind 39 = .ok (.iconst 1, 1) := by decide +kernel
theorem dX7_ordersBehind_40 : decode cX7_ordersBehind 40 = .ok (.iand, 1) := by decide +kernel
theorem dX7_ordersBehind_41 : decode cX7_ordersBehind 41 = .ok (.ifCond .ne 13, 3) := by decide +kernel
theorem dX7_ordersBehind_44 : decode cX7_ordersBehind 44 = .ok (.aload_n 0, 1) := by decide +kernel
theorem dX7_ordersBehind_45 : decode cX7_ordersBehind 45 = .ok (.iload 5, 2) := by decide +kernel
theorem dX7_ordersBehind_47 : decode cX7_ordersBehind 47 = .ok (.iload_n 2, 1) := by decide +kernel
theorem dX7_ordersBehind_48 : decode cX7_ordersBehind 48 = .ok (.invokevirtual 116, 3) := by decide +kernel
theorem dX7_ordersBehind_51 : decode cX7_ordersBehind 51 = .ok (.goto 5, 3) := by decide +kernel
theorem dX7_ordersBehind_54 : decode cX7_ordersBehind 54 = .ok (.bipush (-9), 2) := by decide +kernel
theorem dX7_ordersBehind_56 : decode cX7_ordersBehind 56 = .ok (.istore 6, 2) := by decide +kernel
theorem dX7_ordersBehind_58 : decode cX7_ordersBehind 58 = .ok (.iload 6, 2) := by decide +kernel
theorem dX7_ordersBehind_60 : decode cX7_ordersBehind 60 = .ok (.bipush (-9), 2) := by decide +kernel
theorem dX7_ordersBehind_62 : decode cX7_ordersBehind 62 = .ok (.if_icmp .eq 29, 3) := by decide +kernel
theorem dX7_ordersBehind_65 : decode cX7_ordersBehind 65 = .ok (.iload 4, 2) := by decide +kernel
theorem dX7_ordersBehind_67 : decode cX7_ordersBehind 67 = .ok (.aload_n 0, 1) := by decide +kernel
theorem dX7_ordersBehind_68 : decode cX7_ordersBehind 68 = .ok (.iload_n 1, 1) := by decide +kernel
theorem dX7_ordersBehind_69 : decode cX7_ordersBehind 69 = .ok (.iconst 1, 1) := by decide +kernel
theorem dX7_ordersBehind_70 : decode cX7_ordersBehind 70 = .ok (.iload 5, 2) := by decide +kernel
theorem dX7_ordersBehind_72 : decode cX7_ordersBehind 72 = .ok (.ishl, 1) := by decide +kernel
theorem dX7_ordersBehind_73 : decode cX7_ordersBehind 73 = .ok (.ior, 1) := by decide +kernel
theorem dX7_ordersBehind_74 : decode cX7_ordersBehind 74 = .ok (.aload_n 0, 1) := by decide +kernel
theorem dX7_ordersBehind_75 : decode cX7_ordersBehind 75 = .ok (.iload 5, 2) := by decide +kernel
theorem dX7_ordersBehind_77 : decode cX7_ordersBehind 77 = .ok (.iload 6, 2) := by decide +kernel
theorem dX7_ordersBehind_79 : decode cX7_ordersBehind 79 = .ok (.invokevirtual 113, 3) := by decide +kernel
theorem dX7_ordersBehind_82 : decode cX7_ordersBehind 82 = .ok (.iload_n 3, 1) := by decide +kernel
theorem dX7_ordersBehind_83 : decode cX7_ordersBehind 83 = .ok (.iconst 1, 1) := by decide +kernel
theorem dX7_ordersBehind_84 : decode cX7_ordersBehind 84 = .ok (.iadd, 1) := by decide +kernel
theorem dX7_ordersBehind_85 : decode cX7_ordersBehind 85 = .ok (.invokevirtual 119, 3) := by decide +kernel
theorem dX7_ordersBehind_88 : decode cX7_ordersBehind 88 = .ok (.iadd, 1) := by decide +kernel
theorem dX7_ordersBehind_89 : decode cX7_ordersBehind 89 = .ok (.istore 4, 2) := by decide +kernel
theorem dX7_ordersBehind_91 : decode cX7_ordersBehind 91 = .ok (.iinc 5 1, 3) := by decide +kernel
theorem dX7_ordersBehind_94 : decode cX7_ordersBehind 94 = .ok (.goto (-68), 3) := by decide +kernel
theorem dX7_ordersBehind_97 : decode cX7_ordersBehind 97 = .ok (.iload 4, 2) := by decide +kernel
theorem dX7_ordersBehind_99 : decode cX7_ordersBehind 99 = .ok (.ireturn, 1) := by decide +kernel
theorem dX8_init_0 : decode cX8_init 0 = .ok (.aload_n 0, 1) := by decide +kernel
theorem dX8_init_1 : decode cX8_init 1 = .ok (.invokespecial 1, 3) := by decide +kernel
theorem dX8_init_4 : decode cX8_init 4 = .ok (.aload_n 0, 1) := by decide +kernel
theorem dX8_init_5 : decode cX8_init 5 = .ok (.bipush 6, 2) := by decide +kernel
theorem dX8_init_7 : decode cX8_init 7 = .ok (.anewarray 9, 3) := by decide +kernel
theorem dX8_init_10 : decode cX8_init 10 = .ok (.putfield 11, 3) := by decide +kernel
theorem dX8_init_13 : decode cX8_init 13 = .ok (.aload_n 0, 1) := by decide +kernel
theorem dX8_init_14 : decode cX8_init 14 = .ok (.iconst 4, 1) := by decide +kernel
theorem dX8_init_15 : decode cX8_init 15 = .ok (.anewarray 9, 3) := by decide +kernel
theorem dX8_init_18 : decode cX8_init 18 = .ok (.putfield 15, 3) := by decide +kernel
theorem dX8_init_21 : decode cX8_init 21 = .ok (.aload_n 0, 1) := by decide +kernel
theorem dX8_init_22 : decode cX8_init 22 = .ok (.iconst 3, 1) := by decide +kernel
theorem dX8_init_23 : decode cX8_init 23 = .ok (.anewarray 18, 3) := by decide +kernel
theorem dX8_init_26 : decode cX8_init 26 = .ok (.putfield 20, 3) := by decide +kernel
theorem dX8_init_29 : decode cX8_init 29 = .ok (.aload_n 0, 1) := by decide +kernel
theorem dX8_init_30 : decode cX8_init 30 = .ok (.new 18, 3) := by decide +kernel
theorem dX8_init_33 : decode cX8_init 33 = .ok (.dup, 1) := by decide +kernel
theorem dX8_init_34 : decode cX8_init 34 = .ok (.invokespecial 24, 3) := by decide +kernel
theorem dX8_init_37 : decode cX8_init 37 = .ok (.putfield 25, 3) := by decide +kernel
theorem dX8_init_40 : decode cX8_init 40 = .ok (.aload_n 0, 1) := by decide +kernel
theorem dX8_init_41 : decode cX8_init 41 = .ok (.new 18, 3) := by decide +kernel
theorem dX8_init_44 : decode cX8_init 44 = .ok (.dup, 1) := by decide +kernel
theorem dX8_init_45 : decode cX8_init 45 = .ok (.invokespecial 24, 3) := by decide +kernel
theorem dX8_init_48 : decode cX8_init 48 = .ok (.putfield 29, 3) := by decide +kernel
theorem dX8_init_51 : decode cX8_init 51 = .ok (.aload_n 0, 1) := by decide +kernel
theorem dX8_init_52 : decode cX8_init 52 = .ok (.new 32, 3) := by decide +kernel
theorem dX8_init_55 : decode cX8_init 55 = .ok (.dup, 1) := by decide +kernel
theorem dX8_init_56 : decode cX8_init 56 = .ok (.invokespecial 34, 3) := by decide +kernel
theorem dX8_init_59 : decode cX8_init 59 = .ok (.putfield 35, 3) := by decide +kernel
theorem dX8_init_62 : decode cX8_init 62 = .ok (.aload_n 0, 1) := by decide +kernel
theorem dX8_init_63 : decode cX8_init 63 = .ok (.new 39, 3) := by decide +kernel
theorem dX8_init_66 : decode cX8_init 66 = .ok (.dup, 1) := by decide +kernel
theorem dX8_init_67 : decode cX8_init 67 = .ok (.invokespecial 41, 3) := by decide +kernel
theorem dX8_init_70 : decode cX8_init 70 = .ok (.putfield 42, 3) := by decide +kernel
theorem dX8_init_73 : decode cX8_init 73 = .ok (.aload_n 0, 1) := by decide +kernel
theorem dX8_init_74 : decode cX8_init 74 = .ok (.new 46, 3) := by decide +kernel
theorem dX8_init_77 : decode cX8_init 77 = .ok (.dup, 1) := by decide +kernel
theorem dX8_init_78 : decode cX8_init 78 = .ok (.invokespecial 48, 3) := by decide +kernel
theorem dX8_init_81 : decode cX8_init 81 = .ok (.putfield 49, 3) := by decide +kernel
theorem dX8_init_84 : decode cX8_init 84 = .ok (.aload_n 0, 1) := by decide +kernel
theorem dX8_init_85 : decode cX8_init 85 = .ok (.new 53, 3) := by decide +kernel
theorem dX8_init_88 : decode cX8_init 88 = .ok (.dup, 1) := by decide +kernel
theorem dX8_init_89 : decode cX8_init 89 = .ok (.invokespecial 55, 3) := by decide +kernel
theorem dX8_init_92 : decode cX8_init 92 = .ok (.putfield 56, 3) := by decide +kernel
theorem dX8_init_95 : decode cX8_init 95 = .ok (.aload_n 0, 1) := by decide +kernel
theorem dX8_init_96 : decode cX8_init 96 = .ok (.new 60, 3) := by decide +kernel
theorem dX8_init_99 : decode cX8_init 99 = .ok (.dup, 1) := by decide +kernel
theorem dX8_init_100 : decode cX8_init 100 = .ok (.invokespecial 62, 3) := by decide +kernel
theorem dX8_init_103 : decode cX8_init 103 = .ok (.putfield 63, 3) := by decide +kernel
theorem dX8_init_106 : decode cX8_init 106 = .ok (.aload_n 0, 1) := by decide +kernel
theorem dX8_init_107 : decode cX8_init 107 = .ok (.bipush 6, 2) := by decide +kernel
theorem dX8_init_109 : decode cX8_init 109 = .ok (.newarray .int, 2) := by decide +kernel
theorem dX8_init_111 : decode cX8_init 111 = .ok (.putfield 67, 3) := by decide +kernel
theorem dX8_init_114 : decode cX8_init 114 = .ok (.aload_n 0, 1) := by decide +kernel
theorem dX8_init_115 : decode cX8_init 115 = .ok (.lconst 1, 1) := by decide +kernel
theorem dX8_init_116 : decode cX8_init 116 = .ok (.putfield 71, 3) := by decide +kernel
theorem dX8_init_119 : decode cX8_init 119 = .ok (.iconst 0, 1) := by decide +kernel
theorem dX8_init_120 : decode cX8_init 120 = .ok (.istore_n 1, 1) := by decide +kernel
theorem dX8_init_121 : decode cX8_init 121 = .ok (.iload_n 1, 1) := by decide +kernel
theorem dX8_init_122 : decode cX8_init 122 = .ok (.bipush 6, 2) := by decide +kernel
theorem dX8_init_124 : decode cX8_init 124 = .ok (.if_icmp .ge 24, 3) := by decide +kernel
theorem dX8_init_127 : decode cX8_init 127 = .ok (.aload_n 0, 1) := by decide +kernel
theorem dX8_init_128 : decode cX8_init 128 = .ok (.getfield 11, 3) := by decide +kernel
theorem dX8_init_131 : decode cX8_init 131 = .ok (.iload_n 1, 1) := by decide +kernel
theorem dX8_init_132 : decode cX8_init 132 = .ok (.new 9, 3) := by decide +kernel
theorem dX8_init_135 : decode cX8_init 135 = .ok (.dup, 1) := by decide +kernel
theorem dX8_init_136 : decode cX8_init 136 = .ok (.bipush 40, 2) := by decide +kernel
theorem dX8_init_138 : decode cX8_init 138 = .ok (.invokespecial 75, 3) := by decide +kernel
theorem dX8_init_141 : decode cX8_init 141 = .ok (.aastore, 1) := by decide +kernel
theorem dX8_init_142 : decode cX8_init 142 = .ok (.iinc 1 1, 3) := by decide +kernel
theorem dX8_init_145 : decode cX8_init 145 = .ok (.goto (-24), 3) := by decide +kernel
theorem dX8_init_148 : decode cX8_init 148 = .ok (.iconst 0, 1) := by decide +kernel
theorem dX8_init_149 : decode cX8_init 149 = .ok (.istore_n 1, 1) := by decide +kernel
theorem dX8_init_150 : decode cX8_init 150 = .ok (.iload_n 1, 1) := by decide +kernel
theorem dX8_init_151 : decode cX8_init 151 = .ok (.iconst 4, 1) := by decide +kernel
theorem dX8_init_152 : decode cX8_init 152 = .ok (.if_icmp .ge 24, 3) := by decide +kernel
theorem dX8_init_155 : decode cX8_init 155 = .ok (.aload_n 0, 1) := by decide +kernel
theorem dX8_init_156 : decode cX8_init 156 = .ok (.getfield 15, 3) := by decide +kernel
theorem dX8_init_159 : decode cX8_init 159 = .ok (.iload_n 1, 1) := by decide +kernel
theorem dX8_init_160 : decode cX8_init 160 = .ok (.new 9, 3) := by decide +kernel
theorem dX8_init_163 : decode cX8_init 163 = .ok (.dup, 1) := by decide +kernel
theorem dX8_init_164 : decode cX8_init 164 = .ok (.bipush 60, 2) := by decide +kernel
theorem dX8_init_166 : decode cX8_init 166 = .ok (.invokespecial 75, 3) := by decide +kernel
theorem dX8_init_169 : decode cX8_init 169 = .ok (.aastore, 1) := by decide +kernel
theorem dX8_init_170 : decode cX8_init 170 = .ok (.iinc 1 1, 3) := by decide +kernel
theorem dX8_init_173 : decode cX8_init 173 = .ok (.goto (-23), 3) := by decide +kernel
theorem dX8_init_176 : decode cX8_init 176 = .ok (.iconst 0, 1) := by decide +kernel
theorem dX8_init_177 : decode cX8_init 177 = .ok (.istore_n 1, 1) := by decide +kernel
theorem dX8_init_178 : decode cX8_init 178 = .ok (.iload_n 1, 1) := by decide +kernel
theorem dX8_init_179 : decode cX8_init 179 = .ok (.iconst 3, 1) := by decide +kernel
theorem dX8_init_180 : decode cX8_init 180 = .ok (.if_icmp .ge 22, 3) := by decide +kernel
theorem dX8_init_183 : decode cX8_init 183 = .ok (.aload_n 0, 1) := by decide +kernel
theorem dX8_init_184 : decode cX8_init 184 = .ok (.getfield 20, 3) := by decide +kernel
theorem dX8_init_187 : decode cX8_init 187 = .ok (.iload_n 1, 1) := by decide +kernel
theorem dX8_init_188 : decode cX8_init 188 = .ok (.new 18, 3) := by decide +kernel
theorem dX8_init_191 : decode cX8_init 191 = .ok (.dup, 1) := by decide +kernel
theorem dX8_init_192 : decode cX8_init 192 = .ok (.invokespecial 24, 3) := by decide +kernel
theorem dX8_init_195 : decode cX8_init 195 = .ok (.aastore, 1) := by decide +kernel
theorem dX8_init_196 : decode cX8_init 196 = .ok (.iinc 1 1, 3) := by decide +kernel
theorem dX8_init_199 : decode cX8_init 199 = .ok (.goto (-21), 3) := by decide +kernel
theorem dX8_init_202 : decode cX8_init 202 = .ok (.return_, 1) := by decide +kernel
theorem dX8_row_0 : decode cX8_row 0 = .ok (.iload_n 1, 1) := by decide +kernel
theorem dX8_row_1 : decode cX8_row 1 = .ok (.invokestatic 78, 3) := by decide +kernel
theorem dX8_row_4 : decode cX8_row 4 = .ok (.ifCond .eq 18, 3) := by decide +kernel
theorem dX8_row_7 : decode cX8_row 7 = .ok (.aload_n 0, 1) := by decide +kernel
theorem dX8_row_8 : decode cX8_row 8 = .ok (.aload_n 0, 1) := by decide +kernel
theorem dX8_row_9 : decode cX8_row 9 = .ok (.getfield 11, 3) := by decide +kernel
theorem dX8_row_12 : decode cX8_row 12 = .ok (.iload_n 1, 1) := by decide +kernel
theorem dX8_row_13 : decode cX8_row 13 = .ok (.aaload, 1) := by decide +kernel
theorem dX8_row_14 : decode cX8_row 14 = .ok (.iload_n 2, 1) := by decide +kernel
theorem dX8_row_15 : decode cX8_row 15 = .ok (.iconst 0, 1) := by decide +kernel
theorem dX8_row_16 : decode cX8_row 16 = .ok (.invokevirtual 82, 3) := by decide +kernel
theorem dX8_row_19 : decode cX8_row 19 = .ok (.goto 4, 3) := by decide +kernel
theorem dX8_row_22 : decode cX8_row 22 = .ok (.iconst (-1), 1) := by decide +kernel
theorem dX8_row_23 : decode cX8_row 23 = .ok (.ireturn, 1) := by decide +kernel
theorem dX8_lay_0 : decode cX8_lay 0 = .ok (.aload_n 0, 1) := by decide +kernel
theorem dX8_lay_1 : decode cX8_lay 1 = .ok (.iload_n 1, 1) := by decide +kernel
theorem dX8_lay_2 : decode cX8_lay 2 = .ok (.iload_n 2, 1) := by decide +kernel
theorem dX8_lay_3 : decode cX8_lay 3 = .ok (.invokevirtual 86, 3) := by decide +kernel
theorem dX8_lay_6 : decode cX8_lay 6 = .ok (.istore 4, 2) := by decide +kernel
theorem dX8_lay_8 : decode cX8_lay 8 = .ok (.iload 4, 2) := by decide +kernel
theorem dX8_lay_10 : decode cX8_lay 10 = .ok (.ifCond .eq 6, 3) := by decide +kernel
theorem dX8_lay_13 : decode cX8_lay 13 = .ok (.iload 4, 2) := by decide +kernel
theorem dX8_lay_15 : decode cX8_lay 15 = .ok (.ireturn, 1) := by decide +kernel
theorem dX8_lay_16 : decode cX8_lay 16 = .ok (.aload_n 0, 1) := by decide +kernel
theorem dX8_lay_17 : decode cX8_lay 17 = .ok (.aload_n 0, 1) := by decide +kernel
theorem dX8_lay_18 : decode cX8_lay 18 = .ok (.getfield 11, 3) := by decide +kernel
theorem dX8_lay_21 : decode cX8_lay 21 = .ok (.iload_n 1, 1) := by decide +kernel
theorem dX8_lay_22 : decode cX8_lay 22 = .ok (.aaload, 1) := by decide +kernel
theorem dX8_lay_23 : decode cX8_lay 23 = .ok (.getfield 90, 3) := by decide +kernel
theorem dX8_lay_26 : decode cX8_lay 26 = .ok (.iload_n 2, 1) := by decide +kernel
theorem dX8_lay_27 : decode cX8_lay 27 = .ok (.iaload, 1) := by decide +kernel
theorem dX8_lay_28 : decode cX8_lay 28 = .ok (.putfield 93, 3) := by decide +kernel
theorem dX8_lay_31 : decode cX8_lay 31 = .ok (.aload_n 0, 1) := by decide +kernel
theorem dX8_lay_32 : decode cX8_lay 32 = .ok (.getfield 11, 3) := by decide +kernel
theorem dX8_lay_35 : decode cX8_lay 35 = .ok (.iload_n 1, 1) := by decide +kernel
theorem dX8_lay_36 : decode cX8_lay 36 = .ok (.aaload, 1) := by decide +kernel
theorem dX8_lay_37 : decode cX8_lay 37 = .ok (.getfield 90, 3) := by decide +kernel
theorem dX8_lay_40 : decode cX8_lay 40 = .ok (.iload_n 2, 1) := by decide +kernel
theorem dX8_lay_41 : decode cX8_lay 41 = .ok (.iload_n 3, 1) := by decide +kernel
theorem dX8_lay_42 : decode cX8_lay 42 = .ok (.iastore, 1) := by decide +kernel
theorem dX8_lay_43 : decode cX8_lay 43 = .ok (.iconst 1, 1) := by decide +kernel
theorem dX8_lay_44 : decode cX8_lay 44 = .ok (.ireturn, 1) := by decide +kernel
theorem dX8_at_0 : decode cX8_at 0 = .ok (.aload_n 0, 1) := by decide +kernel
theorem dX8_at_1 : decode cX8_at 1 = .ok (.iload_n 1, 1) := by decide +kernel
theorem dX8_at_2 : decode cX8_at 2 = .ok (.iload_n 2, 1) := by decide +kernel
theorem dX8_at_3 : decode cX8_at 3 = .ok (.invokevirtual 86, 3) := by decide +kernel
theorem dX8_at_6 : decode cX8_at 6 = .ok (.istore_n 3, 1) := by decide +kernel
theorem dX8_at_7 : decode cX8_at 7 = .ok (.iload_n 3, 1) := by decide +kernel
theorem dX8_at_8 : decode cX8_at 8 = .ok (.ifCond .eq 5, 3) := by decide +kernel
theorem dX8_at_11 : decode cX8_at 11 = .ok (.iload_n 3, 1) := by decide +kernel
theorem dX8_at_12 : decode cX8_at 12 = .ok (.ireturn, 1) := by decide +kernel
theorem dX8_at_13 : decode cX8_at 13 = .ok (.aload_n 0, 1) := by decide +kernel
theorem dX8_at_14 : decode cX8_at 14 = .ok (.aload_n 0, 1) := by decide +kernel
theorem dX8_at_15 : decode cX8_at 15 = .ok (.getfield 11, 3) := by decide +kernel
theorem dX8_at_18 : decode cX8_at 18 = .ok (.iload_n 1, 1) := by decide +kernel
theorem dX8_at_19 : decode cX8_at 19 = .ok (.aaload, 1) := by decide +kernel
theorem dX8_at_20 : decode cX8_at 20 = .ok (.getfield 90, 3) := by decide +kernel
theorem dX8_at_23 : decode cX8_at 23 = .ok (.iload_n 2, 1) := by decide +kernel
theorem dX8_at_24 : decode cX8_at 24 = .ok (.iaload, 1) := by decide +kernel
theorem dX8_at_25 : decode cX8_at 25 = .ok (.putfield 93, 3) := by decide +kernel
theorem dX8_at_28 : decode cX8_at 28 = .ok (.iconst 1, 1) := by decide +kernel
theorem dX8_at_29 : decode cX8_at 29 = .ok (.ireturn, 1) := by decide +kernel
theorem dX8_tear_0 : decode cX8_tear 0 = .ok (.iload_n 1, 1) := by decide +kernel
theorem dX8_tear_1 : decode cX8_tear 1 = .ok (.invokestatic 78, 3) := by decide +kernel
theorem dX8_tear_4 : decode cX8_tear 4 = .ok (.ifCond .ne 5, 3) := by decide +kernel
theorem dX8_tear_7 : decode cX8_tear 7 = .ok (.iconst (-1), 1) := by decide +kernel
theorem dX8_tear_8 : decode cX8_tear 8 = .ok (.ireturn, 1) := by decide +kernel
theorem dX8_tear_9 : decode cX8_tear 9 = .ok (.aload_n 0, 1) := by decide +kernel
theorem dX8_tear_10 : decode cX8_tear 10 = .ok (.getfield 11, 3) := by decide +kernel
theorem dX8_tear_13 : decode cX8_tear 13 = .ok (.iload_n 1, 1) := by decide +kernel
theorem dX8_tear_14 : decode cX8_tear 14 = .ok (.aaload, 1) := by decide +kernel
theorem dX8_tear_15 : decode cX8_tear 15 = .ok (.getfield 97, 3) := by decide +kernel
theorem dX8_tear_18 : decode cX8_tear 18 = .ok (.ifCond .ne 9, 3) := by decide +kernel
theorem dX8_tear_21 : decode cX8_tear 21 = .ok (.aload_n 0, 1) := by decide +kernel
theorem dX8_tear_22 : decode cX8_tear 22 = .ok (.iconst 1, 1) := by decide +kernel
theorem dX8_tear_23 : decode cX8_tear 23 = .ok (.invokevirtual 101, 3) := by decide +kernel
theorem dX8_tear_26 : decode cX8_tear 26 = .ok (.ireturn, 1) := by decide +kernel
theorem dX8_tear_27 : decode cX8_tear 27 = .ok (.aload_n 0, 1) := by decide +kernel
theorem dX8_tear_28 : decode cX8_tear 28 = .ok (.getfield 11, 3) := by decide +kernel
theorem dX8_tear_31 : decode cX8_tear 31 = .ok (.iload_n 1, 1) := by decide +kernel
theorem dX8_tear_32 : decode cX8_tear 32 = .ok (.aaload, 1) := by decide +kernel
theorem dX8_tear_33 : decode cX8_tear 33 = .ok (.iconst 0, 1) := by decide +kernel
theorem dX8_tear_34 : decode cX8_tear 34 = .ok (.putfield 97, 3) := by decide +kernel
theorem dX8_tear_37 : decode cX8_tear 37 = .ok (.aload_n 0, 1) := by decide +kernel
theorem dX8_tear_38 : decode cX8_tear 38 = .ok (.getfield 11, 3) := by decide +kernel
theorem dX8_tear_41 : decode cX8_tear 41 = .ok (.iload_n 1, 1) := by decide +kernel
theorem dX8_tear_42 : decode cX8_tear 42 = .ok (.aaload, 1) := by decide +kernel
theorem dX8_tear_43 : decode cX8_tear 43 = .ok (.iconst 0, 1) := by decide +kernel
theorem dX8_tear_44 : decode cX8_tear 44 = .ok (.putfield 105, 3) := by decide +kernel
theorem dX8_tear_47 : decode cX8_tear 47 = .ok (.iconst 1, 1) := by decide +kernel
theorem dX8_tear_48 : decode cX8_tear 48 = .ok (.ireturn, 1) := by decide +kernel
theorem dX8_copy_0 : decode cX8_copy 0 = .ok (.iload_n 1, 1) := by decide +kernel
theorem dX8_copy_1 : decode cX8_copy 1 = .ok (.invokestatic 78, 3) := by decide +kernel
theorem dX8_copy_4 : decode cX8_copy 4 = .ok (.ifCond .eq 10, 3) := by decide +kernel
theorem dX8_copy_7 : decode cX8_copy 7 = .ok (.iload_n 3, 1) := by decide +kernel
theorem dX8_copy_8 : decode cX8_copy 8 = .ok (.invokestatic 78, 3) := by decide +kernel
theorem dX8_copy_11 : decode cX8_copy 11 = .ok (.ifCond .ne 5, 3) := by decide +kernel
theorem dX8_copy_14 : decode cX8_copy 14 = .ok (.iconst (-1), 1) := by decide +kernel
theorem dX8_copy_15 : decode cX8_copy 15 = .ok (.ireturn, 1) := by decide +kernel
theorem dX8_copy_16 : decode cX8_copy 16 = .ok (.iload 5, 2) := by decide +kernel
theorem dX8_copy_18 : decode cX8_copy 18 = .ok (.ifCond .ge 9, 3) := by decide +kernel
theorem dX8_copy_21 : decode cX8_copy 21 = .ok (.aload_n 0, 1) := by decide +kernel
theorem dX8_copy_22 : decode cX8_copy 22 = .ok (.iconst 5, 1) := by decide +kernel
theorem dX8_copy_23 : decode cX8_copy 23 = .ok (.invokevirtual 101, 3) := by decide +kernel
theorem dX8_copy_26 : decode cX8_copy 26 = .ok (.ireturn, 1) := by decide +kernel
theorem dX8_copy_27 : decode cX8_copy 27 = .ok (.aload_n 0, 1) := by decide +kernel
theorem dX8_copy_28 : decode cX8_copy 28 = .ok (.getfield 11, 3) := by decide +kernel
theorem dX8_copy_31 : decode cX8_copy 31 = .ok (.iload_n 1, 1) := by decide +kernel
theorem dX8_copy_32 : decode cX8_copy 32 = .ok (.aaload, 1) := by decide +kernel
theorem dX8_copy_33 : decode cX8_copy 33 = .ok (.astore 6, 2) := by decide +kernel
theorem dX8_copy_35 : decode cX8_copy 35 = .ok (.aload_n 0, 1) := by decide +kernel
theorem dX8_copy_36 : decode cX8_copy 36 = .ok (.getfield 11, 3) := by decide +kernel
theorem dX8_copy_39 : decode cX8_copy 39 = .ok (.iload_n 3, 1) := by decide +kernel
theorem dX8_copy_40 : decode cX8_copy 40 = .ok (.aaload, 1) := by decide +kernel
theorem dX8_copy_41 : decode cX8_copy 41 = .ok (.astore 7, 2) := by decide +kernel
theorem dX8_copy_43 : decode cX8_copy 43 = .ok (.aload 6, 2) := by decide +kernel
theorem dX8_copy_45 : decode cX8_copy 45 = .ok (.getfield 97, 3) := by decide +kernel
theorem dX8_copy_48 : decode cX8_copy 48 = .ok (.ifCond .eq 11, 3) := by decide +kernel
theorem dX8_copy_51 : decode cX8_copy 51 = .ok (.aload 7, 2) := by decide +kernel
theorem dX8_copy_53 : decode cX8_copy 53 = .ok (.getfield 97, 3) := by decide +kernel
theorem dX8_copy_56 : decode cX8_copy 56 = .ok (.ifCond .ne 9, 3) := by decide +kernel
theorem dX8_copy_59 : decode cX8_copy 59 = .ok (.aload_n 0, 1) := by decide +kernel
theorem dX8_copy_60 : decode cX8_copy 60 = .ok (.iconst 1, 1) := by decide +kernel
theorem dX8_copy_61 : decode cX8_copy 61 = .ok (.invokevirtual 101, 3) := by decide +kernel
theorem dX8_copy_64 : decode cX8_copy 64 = .ok (.ireturn, 1) := by decide +kernel
theorem dX8_copy_65 : decode cX8_copy 65 = .ok (.aload 6, 2) := by decide +kernel
theorem dX8_copy_67 : decode cX8_copy 67 = .ok (.iload_n 2, 1) := by decide +kernel
theorem dX8_copy_68 : decode cX8_copy 68 = .ok (.iload 5, 2) := by decide +kernel
theorem dX8_copy_70 : decode cX8_copy 70 = .ok (.invokevirtual 108, 3) := by decide +kernel
theorem dX8_copy_73 : decode cX8_copy 73 = .ok (.ifCond .eq 15, 3) := by decide +kernel
theorem dX8_copy_76 : decode cX8_copy 76 = .ok (.aload 7, 2) := by decide +kernel
theorem dX8_copy_78 : decode cX8_copy 78 = .ok (.iload 4, 2) := by decide +kernel
theorem dX8_copy_80 : decode cX8_copy 80 = .ok (.iload 5, 2) := by decide +kernel
theorem dX8_copy_82 : decode cX8_copy 82 = .ok (.invokevirtual 108, 3) := by decide +kernel
theorem dX8_copy_85 : decode cX8_copy 85 = .ok (.ifCond .ne 9, 3) := by decide +kernel
theorem dX8_copy_88 : decode cX8_copy 88 = .ok (.aload_n 0, 1) := by decide +kernel
theorem dX8_copy_89 : decode cX8_copy 89 = .ok (.iconst 2, 1) := by decide +kernel
theorem dX8_copy_90 : decode cX8_copy 90 = .ok (.invokevirtual 101, 3) := by decide +kernel
theorem dX8_copy_93 : decode cX8_copy 93 = .ok (.ireturn, 1) := by decide +kernel
theorem dX8_copy_94 : decode cX8_copy 94 = .ok (.aload 6, 2) := by decide +kernel
theorem dX8_copy_96 : decode cX8_copy 96 = .ok (.getfield 90, 3) := by decide +kernel
theorem dX8_copy_99 : decode cX8_copy 99 = .ok (.iload_n 2, 1) := by decide +kernel
theorem dX8_copy_100 : decode cX8_copy 100 = .ok (.aload 7, 2) := by decide +kernel
theorem dX8_copy_102 : decode cX8_copy 102 = .ok (.getfield 90, 3) := by decide +kernel
theorem dX8_copy_105 : decode cX8_copy 105 = .ok (.iload 4, 2) := by decide +kernel
theorem dX8_copy_107 : decode cX8_copy 107 = .ok (.iload 5, 2) := by decide +kernel
theorem dX8_copy_109 : decode cX8_copy 109 = .ok (.invokestatic 112, 3) := by decide +kernel
theorem dX8_copy_112 : decode cX8_copy 112 = .ok (.iconst 1, 1) := by decide +kernel
theorem dX8_copy_113 : decode cX8_copy 113 = .ok (.ireturn, 1) := by decide +kernel
theorem dX8_mean_0 : decode cX8_mean 0 = .ok (.iload_n 1, 1) := by decide +kernel
theorem dX8_mean_1 : decode cX8_mean 1 = .ok (.invokestatic 78, 3) := by decide +kernel
theorem dX8_mean_4 : decode cX8_mean 4 = .ok (.ifCond .ne 5, 3) := by decide +kernel
theorem dX8_mean_7 : decode cX8_mean 7 = .ok (.iconst (-1), 1) := by decide +kernel
theorem dX8_mean_8 : decode cX8_mean 8 = .ok (.ireturn, 1) := by decide +kernel
theorem dX8_mean_9 : decode cX8_mean 9 = .ok (.aload_n 0, 1) := by decide +kernel
theorem dX8_mean_10 : decode cX8_mean 10 = .ok (.getfield 11, 3) := by decide +kernel
theorem dX8_mean_13 : decode cX8_mean 13 = .ok (.iload_n 1, 1) := by decide +kernel
theorem dX8_mean_14 : decode cX8_mean 14 = .ok (.aaload, 1) := by decide +kernel
theorem dX8_mean_15 : decode cX8_mean 15 = .ok (.astore_n 2, 1) := by decide +kernel
theorem dX8_mean_16 : decode cX8_mean 16 = .ok (.aload_n 2, 1) := by decide +kernel
theorem dX8_mean_17 : decode cX8_mean 17 = .ok (.getfield 97, 3) := by decide +kernel
theorem dX8_mean_20 : decode cX8_mean 20 = .ok (.ifCond .ne 9, 3) := by decide +kernel
theorem dX8_mean_23 : decode cX8_mean 23 = .ok (.aload_n 0, 1) := by decide +kernel
theorem dX8_mean_24 : decode cX8_mean 24 = .ok (.iconst 1, 1) := by decide +kernel
theorem dX8_mean_25 : decode cX8_mean 25 = .ok (.invokevirtual 101, 3) := by decide +kernel
theorem dX8_mean_28 : decode cX8_mean 28 = .ok (.ireturn, 1) := by decide +kernel
theorem dX8_mean_29 : decode cX8_mean 29 = .ok (.aload_n 2, 1) := by decide +kernel
theorem dX8_mean_30 : decode cX8_mean 30 = .ok (.getfield 105, 3) := by decide +kernel
theorem dX8_mean_33 : decode cX8_mean 33 = .ok (.ifCond .ne 9, 3) := by decide +kernel
theorem dX8_mean_36 : decode cX8_mean 36 = .ok (.aload_n 0, 1) := by decide +kernel
theorem dX8_mean_37 : decode cX8_mean 37 = .ok (.iconst 4, 1) := by decide +kernel
theorem dX8_mean_38 : decode cX8_mean 38 = .ok (.invokevirtual 101, 3) := by decide +kernel
theorem dX8_mean_41 : decode cX8_mean 41 = .ok (.ireturn, 1) := by decide +kernel
theorem dX8_mean_42 : decode cX8_mean 42 = .ok (.lconst 0, 1) := by decide +kernel
theorem dX8_mean_43 : decode cX8_mean 43 = .ok (.lstore_n 3, 1) := by decide +kernel
theorem dX8_mean_44 : decode cX8_mean 44 = .ok (.iconst 0, 1) := by decide +kernel
theorem dX8_mean_45 : decode cX8_mean 45 = .ok (.istore 5, 2) := by decide +kernel
theorem dX8_mean_47 : decode cX8_mean 47 = .ok (.iload 5, 2) := by decide +kernel
theorem dX8_mean_49 : decode cX8_mean 49 = .ok (.aload_n 2, 1) := by decide +kernel
theorem dX8_mean_50 : decode cX8_mean 50 = .ok (.getfield 105, 3) := by decide +kernel
theorem dX8_mean_53 : decode cX8_mean 53 = .ok (.if_icmp .ge 20, 3) := by decide +kernel
theorem dX8_mean_56 : decode cX8_mean 56 = .ok (.lload_n 3, 1) := by decide +kernel
theorem dX8_mean_57 : decode cX8_mean 57 = .ok (.aload_n 2, 1) := by decide +kernel
theorem dX8_mean_58 : decode cX8_mean 58 = .ok (.getfield 90, 3) := by decide +kernel
theorem dX8_mean_61 : decode cX8_mean 61 = .ok (.iload 5, 2) := by decide +kernel
theorem dX8_mean_63 : decode cX8_mean 63 = .ok (.iaload, 1) := by decide +kernel
theorem dX8_mean_64 : decode cX8_mean 64 = .ok (.i2l, 1) := by decide +kernel
theorem dX8_mean_65 : decode cX8_mean 65 = .ok (.ladd, 1) := by decide +kernel
theorem dX8_mean_66 : decode cX8_mean 66 = .ok (.lstore_n 3, 1) := by decide +kernel
theorem dX8_mean_67 : decode cX8_mean 67 = .ok (.iinc 5 1, 3) := by decide +kernel
theorem dX8_mean_70 : decode cX8_mean 70 = .ok (.goto (-23), 3) := by decide +kernel
theorem dX8_mean_73 : decode cX8_mean 73 = .ok (.aload_n 0, 1) := by decide +kernel
theorem dX8_mean_74 : decode cX8_mean 74 = .ok (.lload_n 3, 1) := by decide +kernel
theorem dX8_mean_75 : decode cX8_mean 75 = .ok (.aload_n 2, 1) := by decide +kernel
theorem dX8_mean_76 : decode cX8_mean 76 = .ok (.getfield 105, 3) := by decide +kernel
theorem dX8_mean_79 : decode cX8_mean 79 = .ok (.i2l, 1) := by decide +kernel
theorem dX8_mean_80 : decode cX8_mean 80 = .ok (.ldiv, 1) := by decide +kernel
theorem dX8_mean_81 : decode cX8_mean 81 = .ok (.l2i, 1) := by decide +kernel
theorem dX8_mean_82 : decode cX8_mean 82 = .ok (.putfield 93, 3) := by decide +kernel
theorem dX8_mean_85 : decode cX8_mean 85 = .ok (.iconst 1, 1) := by decide +kernel
theorem dX8_mean_86 : decode cX8_mean 86 = .ok (.ireturn, 1) := by decide +kernel
theorem dX8_text_0 : decode cX8_text 0 = .ok (.iload_n 1, 1) := by decide +kernel
theorem dX8_text_1 : decode cX8_text 1 = .ok (.invokestatic 118, 3) := by decide +kernel
theorem dX8_text_4 : decode cX8_text 4 = .ok (.ifCond .eq 19, 3) := by decide +kernel
theorem dX8_text_7 : decode cX8_text 7 = .ok (.aload_n 0, 1) := by decide +kernel
theorem dX8_text_8 : decode cX8_text 8 = .ok (.aload_n 0, 1) := by decide +kernel
theorem dX8_text_9 : decode cX8_text 9 = .ok (.getfield 15, 3) := by decide +kernel
theorem dX8_text_12 : decode cX8_text 12 = .ok (.iload_n 1, 1) := by decide +kernel
theorem dX8_text_13 : decode cX8_text 13 = .ok (.aaload, 1) := by decide +kernel
theorem dX8_text_14 : decode cX8_text 14 = .ok (.iload_n 2, 1) := by decide +kernel
theorem dX8_text_15 : decode cX8_text 15 = .ok (.bipush 32, 2) := by decide +kernel
theorem dX8_text_17 : decode cX8_text 17 = .ok (.invokevirtual 82, 3) := by decide +kernel
theorem dX8_text_20 : decode cX8_text 20 = .ok (.goto 4, 3) := by decide +kernel
theorem dX8_text_23 : decode cX8_text 23 = .ok (.iconst (-1), 1) := by decide +kernel
theorem dX8_text_24 : decode cX8_text 24 = .ok (.ireturn, 1) := by decide +kernel
theorem dX8_put_0 : decode cX8_put 0 = .ok (.iload_n 1, 1) := by decide +kernel
theorem dX8_put_1 : decode cX8_put 1 = .ok (.invokestatic 118, 3) := by decide +kernel
theorem dX8_put_4 : decode cX8_put 4 = .ok (.ifCond .ne 5, 3) := by decide +kernel
theorem dX8_put_7 : decode cX8_put 7 = .ok (.iconst (-1), 1) := by decide +kernel
theorem dX8_put_8 : decode cX8_put 8 = .ok (.ireturn, 1) := by decide +kernel
theorem dX8_put_9 : decode cX8_put 9 = .ok (.aload_n 0, 1) := by decide +kernel
theorem dX8_put_10 : decode cX8_put 10 = .ok (.getfield 15, 3) := by decide +kernel
theorem dX8_put_13 : decode cX8_put 13 = .ok (.iload_n 1, 1) := by decide +kernel
theorem dX8_put_14 : decode cX8_put 14 = .ok (.aaload, 1) := by decide +kernel
theorem dX8_put_15 : decode cX8_put 15 = .ok (.astore 4, 2) := by decide +kernel
theorem dX8_put_17 : decode cX8_put 17 = .ok (.aload 4, 2) := by decide +kernel
theorem dX8_put_19 : decode cX8_put 19 = .ok (.getfield 97, 3) := by decide +kernel
theorem dX8_put_22 : decode cX8_put 22 = .ok (.ifCond .ne 9, 3) := by decide +kernel
theorem dX8_put_25 : decode cX8_put 25 = .ok (.aload_n 0, 1) := by decide +kernel
theorem dX8_put_26 : decode cX8_put 26 = .ok (.iconst 1, 1) := by decide +kernel
theorem dX8_put_27 : decode cX8_put 27 = .ok (.invokevirtual 101, 3) := by decide +kernel
theorem dX8_put_30 : decode cX8_put 30 = .ok (.ireturn, 1) := by decide +kernel
theorem dX8_put_31 : decode cX8_put 31 = .ok (.aload 4, 2) := by decide +kernel
theorem dX8_put_33 : decode cX8_put 33 = .ok (.iload_n 2, 1) := by decide +kernel
theorem dX8_put_34 : decode cX8_put 34 = .ok (.invokevirtual 121, 3) := by decide +kernel
theorem dX8_put_37 : decode cX8_put 37 = .ok (.ifCond .ne 9, 3) := by decide +kernel
theorem dX8_put_40 : decode cX8_put 40 = .ok (.aload_n 0, 1) := by decide +kernel
theorem dX8_put_41 : decode cX8_put 41 = .ok (.iconst 2, 1) := by decide +kernel
theorem dX8_put_42 : decode cX8_put 42 = .ok (.invokevirtual 101, 3) := by decide +kernel
theorem dX8_put_45 : decode cX8_put 45 = .ok (.ireturn, 1) := by decide +kernel
theorem dX8_put_46 : decode cX8_put 46 = .ok (.aload 4, 2) := by decide +kernel
theorem dX8_put_48 : decode cX8_put 48 = .ok (.getfield 90, 3) := by decide +kernel
theorem dX8_put_51 : decode cX8_put 51 = .ok (.iload_n 2, 1) := by decide +kernel
theorem dX8_put_52 : decode cX8_put 52 = .ok (.iaload, 1) := by decide +kernel
theorem dX8_put_53 : decode cX8_put 53 = .ok (.istore 5, 2) := by decide +kernel
theorem dX8_put_55 : decode cX8_put 55 = .ok (.aload 4, 2) := by decide +kernel
theorem dX8_put_57 : decode cX8_put 57 = .ok (.getfield 90, 3) := by decide +kernel
theorem dX8_put_60 : decode cX8_put 60 = .ok (.iload_n 2, 1) := by decide +kernel
theorem dX8_put_61 : decode cX8_put 61 = .ok (.iload_n 3, 1) := by decide +kernel
theorem dX8_put_62 : decode cX8_put 62 = .ok (.i2b, 1) := by decide +kernel
theorem dX8_put_63 : decode cX8_put 63 = .ok (.iastore, 1) := by decide +kernel
theorem dX8_put_64 : decode cX8_put 64 = .ok (.iload 5, 2) := by decide +kernel
theorem dX8_put_66 : decode cX8_put 66 = .ok (.sipush 1000, 3) := by decide +kernel
theorem dX8_put_69 : decode cX8_put 69 = .ok (.iadd, 1) := by decide +kernel
theorem dX8_put_70 : decode cX8_put 70 = .ok (.ireturn, 1) := by decide +kernel
theorem dX8_fault_0 : decode cX8_fault 0 = .ok (.iload_n 1, 1) := by decide +kernel
theorem dX8_fault_1 : decode cX8_fault 1 = .ok (.invokestatic 118, 3) := by decide +kernel
theorem dX8_fault_4 : decode cX8_fault 4 = .ok (.ifCond .ne 5, 3) := by decide +kernel
theorem dX8_fault_7 : decode cX8_fault 7 = .ok (.iconst (-1), 1) := by decide +kernel
theorem dX8_fault_8 : decode cX8_fault 8 = .ok (.ireturn, 1) := by decide +kernel
theorem dX8_fault_9 : decode cX8_fault 9 = .ok (.aload_n 0, 1) := by decide +kernel
theorem dX8_fault_10 : decode cX8_fault 10 = .ok (.getfield 15, 3) := by decide +kernel
theorem dX8_fault_13 : decode cX8_fault 13 = .ok (.iload_n 1, 1) := by decide +kernel
theorem dX8_fault_14 : decode cX8_fault 14 = .ok (.aaload, 1) := by decide +kernel
theorem dX8_fault_15 : decode cX8_fault 15 = .ok (.getfield 97, 3) := by decide +kernel
theorem dX8_fault_18 : decode cX8_fault 18 = .ok (.ifCond .eq 16, 3) := by decide +kernel
theorem dX8_fault_21 : decode cX8_fault 21 = .ok (.aload_n 0, 1) := by decide +kernel
theorem dX8_fault_22 : decode cX8_fault 22 = .ok (.aload_n 0, 1) := by decide +kernel
theorem dX8_fault_23 : decode cX8_fault 23 = .ok (.getfield 15, 3) := by decide +kernel
theorem dX8_fault_26 : decode cX8_fault 26 = .ok (.iload_n 1, 1) := by decide +kernel
theorem dX8_fault_27 : decode cX8_fault 27 = .ok (.aaload, 1) := by decide +kernel
theorem dX8_fault_28 : decode cX8_fault 28 = .ok (.invokevirtual 124, 3) := by decide +kernel
theorem dX8_fault_31 : decode cX8_fault 31 = .ok (.goto 8, 3) := by decide +kernel
theorem dX8_fault_34 : decode cX8_fault 34 = .ok (.aload_n 0, 1) := by decide +kernel
theorem dX8_fault_35 : decode cX8_fault 35 = .ok (.iconst 1, 1) := by decide +kernel
theorem dX8_fault_36 : decode cX8_fault 36 = .ok (.invokevirtual 101, 3) := by decide +kernel
theorem dX8_fault_39 : decode cX8_fault 39 = .ok (.ireturn, 1) := by decide +kernel
theorem dX8_tower_0 : decode cX8_tower 0 = .ok (.iload_n 1, 1) := by decide +kernel
theorem dX8_tower_1 : decode cX8_tower 1 = .ok (.invokestatic 118, 3) := by decide +kernel
theorem dX8_tower_4 : decode cX8_tower 4 = .ok (.ifCond .ne 5, 3) := by decide +kernel
theorem dX8_tower_7 : decode cX8_tower 7 = .ok (.iconst (-1), 1) := by decide +kernel
theorem dX8_tower_8 : decode cX8_tower 8 = .ok (.ireturn, 1) := by decide +kernel
theorem dX8_tower_9 : decode cX8_tower 9 = .ok (.aload_n 0, 1) := by decide +kernel
theorem dX8_tower_10 : decode cX8_tower 10 = .ok (.getfield 15, 3) := by decide +kernel
theorem dX8_tower_13 : decode cX8_tower 13 = .ok (.iload_n 1, 1) := by decide +kernel
theorem dX8_tower_14 : decode cX8_tower 14 = .ok (.aaload, 1) := by decide +kernel
theorem dX8_tower_15 : decode cX8_tower 15 = .ok (.getfield 97, 3) := by decide +kernel
theorem dX8_tower_18 : decode cX8_tower 18 = .ok (.ifCond .ne 9, 3) := by decide +kernel
theorem dX8_tower_21 : decode cX8_tower 21 = .ok (.aload_n 0, 1) := by decide +kernel
theorem dX8_tower_22 : decode cX8_tower 22 = .ok (.iconst 1, 1) := by decide +kernel
theorem dX8_tower_23 : decode cX8_tower 23 = .ok (.invokevirtual 101, 3) := by decide +kernel
theorem dX8_tower_26 : decode cX8_tower 26 = .ok (.ireturn, 1) := by decide +kernel
theorem dX8_tower_27 : decode cX8_tower 27 = .ok (.aload_n 0, 1) := by decide +kernel
theorem dX8_tower_28 : decode cX8_tower 28 = .ok (.aload_n 0, 1) := by decide +kernel
theorem dX8_tower_29 : decode cX8_tower 29 = .ok (.getfield 15, 3) := by decide +kernel
theorem dX8_tower_32 : decode cX8_tower 32 = .ok (.iload_n 1, 1) := by decide +kernel
theorem dX8_tower_33 : decode cX8_tower 33 = .ok (.aaload, 1) := by decide +kernel
theorem dX8_tower_34 : decode cX8_tower 34 = .ok (.invokevirtual 124, 3) := by decide +kernel
theorem dX8_tower_37 : decode cX8_tower 37 = .ok (.bipush (-9), 2) := by decide +kernel
theorem dX8_tower_39 : decode cX8_tower 39 = .ok (.if_icmp .eq 6, 3) := by decide +kernel
theorem dX8_tower_42 : decode cX8_tower 42 = .ok (.bipush (-4), 2) := by decide +kernel
theorem dX8_tower_44 : decode cX8_tower 44 = .ok (.ireturn, 1) := by decide +kernel
theorem dX8_tower_45 : decode cX8_tower 45 = .ok (.aload_n 0, 1) := by decide +kernel
theorem dX8_tower_46 : decode cX8_tower 46 = .ok (.getfield 25, 3) := by decide +kernel
theorem dX8_tower_49 : decode cX8_tower 49 = .ok (.aload_n 0, 1) := by decide +kernel
theorem dX8_tower_50 : decode cX8_tower 50 = .ok (.getfield 29, 3) := by decide +kernel
theorem dX8_tower_53 : decode cX8_tower 53 = .ok (.invokevirtual 128, 3) := by decide +kernel
theorem dX8_tower_56 : decode cX8_tower 56 = .ok (.iconst 0, 1) := by decide +kernel
theorem dX8_tower_57 : decode cX8_tower 57 = .ok (.istore_n 2, 1) := by decide +kernel
theorem dX8_tower_58 : decode cX8_tower 58 = .ok (.iload_n 2, 1) := by decide +kernel
theorem dX8_tower_59 : decode cX8_tower 59 = .ok (.iconst 3, 1) := by decide +kernel
theorem dX8_tower_60 : decode cX8_tower 60 = .ok (.if_icmp .ge 18, 3) := by decide +kernel
theorem dX8_tower_63 : decode cX8_tower 63 = .ok (.aload_n 0, 1) := by decide +kernel
theorem dX8_tower_64 : decode cX8_tower 64 = .ok (.getfield 20, 3) := by decide +kernel
theorem dX8_tower_67 : decode cX8_tower 67 = .ok (.iload_n 2, 1) := by decide +kernel
theorem dX8_tower_68 : decode cX8_tower 68 = .ok (.aaload, 1) := by decide +kernel
theorem dX8_tower_69 : decode cX8_tower 69 = .ok (.invokevirtual 132, 3) := by decide +kernel
theorem dX8_tower_72 : decode cX8_tower 72 = .ok (.iinc 2 1, 3) := by decide +kernel
theorem dX8_tower_75 : decode cX8_tower 75 = .ok (.goto (-17), 3) := by decide +kernel
theorem dX8_tower_78 : decode cX8_tower 78 = .ok (.aload_n 0, 1) := by decide +kernel
theorem dX8_tower_79 : decode cX8_tower 79 = .ok (.getfield 25, 3) := by decide +kernel
theorem dX8_tower_82 : decode cX8_tower 82 = .ok (.getfield 135, 3) := by decide +kernel
theorem dX8_tower_85 : decode cX8_tower 85 = .ok (.ireturn, 1) := by decide +kernel
theorem dX8_bell_0 : decode cX8_bell 0 = .ok (.aload_n 0, 1) := by decide +kernel
theorem dX8_bell_1 : decode cX8_bell 1 = .ok (.getfield 25, 3) := by decide +kernel
theorem dX8_bell_4 : decode cX8_bell 4 = .ok (.iload_n 1, 1) := by decide +kernel
theorem dX8_bell_5 : decode cX8_bell 5 = .ok (.invokevirtual 136, 3) := by decide +kernel
theorem dX8_bell_8 : decode cX8_bell 8 = .ok (.ifCond .eq 13, 3) := by decide +kernel
theorem dX8_bell_11 : decode cX8_bell 11 = .ok (.iload_n 2, 1) := by decide +kernel
theorem dX8_bell_12 : decode cX8_bell 12 = .ok (.ifCond .lt 9, 3) := by decide +kernel
theorem dX8_bell_15 : decode cX8_bell 15 = .ok (.iload_n 2, 1) := by decide +kernel
theorem dX8_bell_16 : decode cX8_bell 16 = .ok (.bipush 6, 2) := by decide +kernel
theorem dX8_bell_18 : decode cX8_bell 18 = .ok (.if_icmp .lt 5, 3) := by decide +kernel
theorem dX8_bell_21 : decode cX8_bell 21 = .ok (.iconst (-1), 1) := by decide +kernel
theorem dX8_bell_22 : decode cX8_bell 22 = .ok (.ireturn, 1) := by decide +kernel
theorem dX8_bell_23 : decode cX8_bell 23 = .ok (.aload_n 0, 1) := by decide +kernel
theorem dX8_bell_24 : decode cX8_bell 24 = .ok (.aload_n 0, 1) := by decide +kernel
theorem dX8_bell_25 : decode cX8_bell 25 = .ok (.getfield 25, 3) := by decide +kernel
theorem dX8_bell_28 : decode cX8_bell 28 = .ok (.getfield 137, 3) := by decide +kernel
theorem dX8_bell_31 : decode cX8_bell 31 = .ok (.iload_n 1, 1) := by decide +kernel
theorem dX8_bell_32 : decode cX8_bell 32 = .ok (.aaload, 1) := by decide +kernel
theorem dX8_bell_33 : decode cX8_bell 33 = .ok (.iload_n 2, 1) := by decide +kernel
theorem dX8_bell_34 : decode cX8_bell 34 = .ok (.invokevirtual 141, 3) := by decide +kernel
theorem dX8_bell_37 : decode cX8_bell 37 = .ok (.putfield 93, 3) := by decide +kernel
theorem dX8_bell_40 : decode cX8_bell 40 = .ok (.iconst 1, 1) := by decide +kernel
theorem dX8_bell_41 : decode cX8_bell 41 = .ok (.ireturn, 1) := by decide +kernel
theorem dX8_mark_0 : decode cX8_mark 0 = .ok (.aload_n 0, 1) := by decide +kernel
theorem dX8_mark_1 : decode cX8_mark 1 = .ok (.getfield 25, 3) := by decide +kernel
theorem dX8_mark_4 : decode cX8_mark 4 = .ok (.iload_n 1, 1) := by decide +kernel
theorem dX8_mark_5 : decode cX8_mark 5 = .ok (.invokevirtual 136, 3) := by decide +kernel
theorem dX8_mark_8 : decode cX8_mark 8 = .ok (.ifCond .eq 13, 3) := by decide +kernel
theorem dX8_mark_11 : decode cX8_mark 11 = .ok (.iload_n 2, 1) := by decide +kernel
theorem dX8_mark_12 : decode cX8_mark 12 = .ok (.ifCond .le 9, 3) := by decide +kernel
theorem dX8_mark_15 : decode cX8_mark 15 = .ok (.iload_n 2, 1) := by decide +kernel
theorem dX8_mark_16 : decode cX8_mark 16 = .ok (.bipush 6, 2) := by decide +kernel
theorem dX8_mark_18 : decode cX8_mark 18 = .ok (.if_icmp .lt 5, 3) := by decide +kernel
theorem dX8_mark_21 : decode cX8_mark 21 = .ok (.iconst (-1), 1) := by decide +kernel
theorem dX8_mark_22 : decode cX8_mark 22 = .ok (.ireturn, 1) := by decide +kernel
theorem dX8_mark_23 : decode cX8_mark 23 = .ok (.aload_n 0, 1) := by decide +kernel
theorem dX8_mark_24 : decode cX8_mark 24 = .ok (.getfield 25, 3) := by decide +kernel
theorem dX8_mark_27 : decode cX8_mark 27 = .ok (.getfield 137, 3) := by decide +kernel
theorem dX8_mark_30 : decode cX8_mark 30 = .ok (.iload_n 1, 1) := by decide +kernel
theorem dX8_mark_31 : decode cX8_mark 31 = .ok (.aaload, 1) := by decide +kernel
theorem dX8_mark_32 : decode cX8_mark 32 = .ok (.astore_n 3, 1) := by decide +kernel
theorem dX8_mark_33 : decode cX8_mark 33 = .ok (.aload_n 3, 1) := by decide +kernel
theorem dX8_mark_34 : decode cX8_mark 34 = .ok (.getfield 146, 3) := by decide +kernel
theorem dX8_mark_37 : decode cX8_mark 37 = .ok (.iload_n 2, 1) := by decide +kernel
theorem dX8_mark_38 : decode cX8_mark 38 = .ok (.invokestatic 149, 3) := by decide +kernel
theorem dX8_mark_41 : decode cX8_mark 41 = .ok (.ifCond .ne 9, 3) := by decide +kernel
theorem dX8_mark_44 : decode cX8_mark 44 = .ok (.aload_n 0, 1) := by decide +kernel
theorem dX8_mark_45 : decode cX8_mark 45 = .ok (.iconst 3, 1) := by decide +kernel
theorem dX8_mark_46 : decode cX8_mark 46 = .ok (.invokevirtual 101, 3) := by decide +kernel
theorem dX8_mark_49 : decode cX8_mark 49 = .ok (.ireturn, 1) := by decide +kernel
theorem dX8_mark_50 : decode cX8_mark 50 = .ok (.iload_n 2, 1) := by decide +kernel
theorem dX8_mark_51 : decode cX8_mark 51 = .ok (.tableswitch 59 1 4 #[29, 35, 43, 53], 29) := by decide +kernel
theorem dX8_mark_80 : decode cX8_mark 80 = .ok (.aload_n 0, 1) := by decide +kernel
theorem dX8_mark_81 : decode cX8_mark 81 = .ok (.aload_n 3, 1) := by decide +kernel
theorem dX8_mark_82 : decode cX8_mark 82 = .ok (.invokevirtual 152, 3) := by decide +kernel
theorem dX8_mark_85 : decode cX8_mark 85 = .ok (.ireturn, 1) := by decide +kernel
theorem dX8_mark_86 : decode cX8_mark 86 = .ok (.bipush 20, 2) := by decide +kernel
theorem dX8_mark_88 : decode cX8_mark 88 = .ok (.aload_n 3, 1) := by decide +kernel
theorem dX8_mark_89 : decode cX8_mark 89 = .ok (.getfield 156, 3) := by decide +kernel
theorem dX8_mark_92 : decode cX8_mark 92 = .ok (.isub, 1) := by decide +kernel
theorem dX8_mark_93 : decode cX8_mark 93 = .ok (.ireturn, 1) := by decide +kernel
theorem dX8_mark_94 : decode cX8_mark 94 = .ok (.aload_n 0, 1) := by decide +kernel
theorem dX8_mark_95 : decode cX8_mark 95 = .ok (.getfield 25, 3) := by decide +kernel
theorem dX8_mark_98 : decode cX8_mark 98 = .ok (.iload_n 1, 1) := by decide +kernel
theorem dX8_mark_99 : decode cX8_mark 99 = .ok (.iconst 1, 1) := by decide +kernel
theorem dX8_mark_100 : decode cX8_mark 100 = .ok (.invokevirtual 159, 3) := by decide +kernel
theorem dX8_mark_103 : decode cX8_mark 103 = .ok (.ireturn, 1) := by decide +kernel
theorem dX8_mark_104 : decode cX8_mark 104 = .ok (.aload_n 0, 1) := by decide +kernel
theorem dX8_mark_105 : decode cX8_mark 105 = .ok (.iload_n 1, 1) := by decide +kernel
theorem dX8_mark_106 : decode cX8_mark 106 = .ok (.invokevirtual 162, 3) := by decide +kernel
theorem dX8_mark_109 : decode cX8_mark 109 = .ok (.ireturn, 1) := by decide +kernel
theorem dX8_mark_110 : decode cX8_mark 110 = .ok (.aload_n 0, 1) := by decide +kernel
theorem dX8_mark_111 : decode cX8_mark 111 = .ok (.iload_n 1, 1) := by decide +kernel
theorem dX8_mark_112 : decode cX8_mark 112 = .ok (.invokevirtual 165, 3) := by decide +kernel
theorem dX8_mark_115 : decode cX8_mark 115 = .ok (.ireturn, 1) := by decide +kernel
theorem dX8_damp_0 : decode cX8_damp 0 = .ok (.iload_n 1, 1) := by decide +kernel
theorem dX8_damp_1 : decode cX8_damp 1 = .ok (.ifCond .lt 8, 3) := by decide +kernel
theorem dX8_damp_4 : decode cX8_damp 4 = .ok (.iload_n 1, 1) := by decide +kernel
theorem dX8_damp_5 : decode cX8_damp 5 = .ok (.iconst 3, 1) := by decide +kernel
theorem dX8_damp_6 : decode cX8_damp 6 = .ok (.if_icmp .le 5, 3) := by decide +kernel
theorem dX8_damp_9 : decode cX8_damp 9 = .ok (.iconst (-1), 1) := by decide +kernel
theorem dX8_damp_10 : decode cX8_damp 10 = .ok (.ireturn, 1) := by decide +kernel
theorem dX8_damp_11 : decode cX8_damp 11 = .ok (.aload_n 0, 1) := by decide +kernel
theorem dX8_damp_12 : decode cX8_damp 12 = .ok (.getfield 25, 3) := by decide +kernel
theorem dX8_damp_15 : decode cX8_damp 15 = .ok (.getfield 135, 3) := by decide +kernel
theorem dX8_damp_18 : decode cX8_damp 18 = .ok (.ifCond .ne 6, 3) := by decide +kernel
theorem dX8_damp_21 : decode cX8_damp 21 = .ok (.bipush (-4), 2) := by decide +kernel
theorem dX8_damp_23 : decode cX8_damp 23 = .ok (.ireturn, 1) := by decide +kernel
theorem dX8_damp_24 : decode cX8_damp 24 = .ok (.aload_n 0, 1) := by decide +kernel
theorem dX8_damp_25 : decode cX8_damp 25 = .ok (.getfield 25, 3) := by decide +kernel
theorem dX8_damp_28 : decode cX8_damp 28 = .ok (.getfield 168, 3) := by decide +kernel
theorem dX8_damp_31 : decode cX8_damp 31 = .ok (.istore_n 2, 1) := by decide +kernel
theorem dX8_damp_32 : decode cX8_damp 32 = .ok (.aload_n 0, 1) := by decide +kernel
theorem dX8_damp_33 : decode cX8_damp 33 = .ok (.getfield 25, 3) := by decide +kernel
theorem dX8_damp_36 : decode cX8_damp 36 = .ok (.iload_n 1, 1) := by decide +kernel
theorem dX8_damp_37 : decode cX8_damp 37 = .ok (.putfield 168, 3) := by decide +kernel
theorem dX8_damp_40 : decode cX8_damp 40 = .ok (.iload_n 2, 1) := by decide +kernel
theorem dX8_damp_41 : decode cX8_damp 41 = .ok (.ireturn, 1) := by decide +kernel
theorem dX8_stroke_0 : decode cX8_stroke 0 = .ok (.iload_n 2, 1) := by decide +kernel
theorem dX8_stroke_1 : decode cX8_stroke 1 = .ok (.invokestatic 171, 3) := by decide +kernel
theorem dX8_stroke_4 : decode cX8_stroke 4 = .ok (.ifCond .ne 5, 3) := by decide +kernel
theorem dX8_stroke_7 : decode cX8_stroke 7 = .ok (.iconst (-1), 1) := by decide +kernel
theorem dX8_stroke_8 : decode cX8_stroke 8 = .ok (.ireturn, 1) := by decide +kernel
theorem dX8_stroke_9 : decode cX8_stroke 9 = .ok (.aload_n 0, 1) := by decide +kernel
theorem dX8_stroke_10 : decode cX8_stroke 10 = .ok (.iload_n 1, 1) := by decide +kernel
theorem dX8_stroke_11 : decode cX8_stroke 11 = .ok (.invokevirtual 174, 3) := by decide +kernel
theorem dX8_stroke_14 : decode cX8_stroke 14 = .ok (.istore_n 3, 1) := by decide +kernel
theorem dX8_stroke_15 : decode cX8_stroke 15 = .ok (.iload_n 3, 1) := by decide +kernel
theorem dX8_stroke_16 : decode cX8_stroke 16 = .ok (.ifCond .eq 5, 3) := by decide +kernel
theorem dX8_stroke_19 : decode cX8_stroke 19 = .ok (.iload_n 3, 1) := by decide +kernel
theorem dX8_stroke_20 : decode cX8_stroke 20 = .ok (.ireturn, 1) := by decide +kernel
theorem dX8_stroke_21 : decode cX8_stroke 21 = .ok (.aload_n 0, 1) := by decide +kernel
theorem dX8_stroke_22 : decode cX8_stroke 22 = .ok (.getfield 25, 3) := by decide +kernel
theorem dX8_stroke_25 : decode cX8_stroke 25 = .ok (.invokevirtual 177, 3) := by decide +kernel
theorem dX8_stroke_28 : decode cX8_stroke 28 = .ok (.iconst 1, 1) := by decide +kernel
theorem dX8_stroke_29 : decode cX8_stroke 29 = .ok (.if_icmp .ge 6, 3) := by decide +kernel
theorem dX8_stroke_32 : decode cX8_stroke 32 = .ok (.bipush (-2), 2) := by decide +kernel
theorem dX8_stroke_34 : decode cX8_stroke 34 = .ok (.ireturn, 1) := by decide +kernel
theorem dX8_stroke_35 : decode cX8_stroke 35 = .ok (.aload_n 0, 1) := by decide +kernel
theorem dX8_stroke_36 : decode cX8_stroke 36 = .ok (.getfield 25, 3) := by decide +kernel
theorem dX8_stroke_39 : decode cX8_stroke 39 = .ok (.iload_n 1, 1) := by decide +kernel
theorem dX8_stroke_40 : decode cX8_stroke 40 = .ok (.iload_n 2, 1) := by decide +kernel
theorem dX8_stroke_41 : decode cX8_stroke 41 = .ok (.invokestatic 181, 3) := by decide +kernel
theorem dX8_stroke_44 : decode cX8_stroke 44 = .ok (.invokevirtual 184, 3) := by decide +kernel
theorem dX8_stroke_47 : decode cX8_stroke 47 = .ok (.aload_n 0, 1) := by decide +kernel
theorem dX8_stroke_48 : decode cX8_stroke 48 = .ok (.getfield 25, 3) := by decide +kernel
theorem dX8_stroke_51 : decode cX8_stroke 51 = .ok (.getfield 137, 3) := by decide +kernel
theorem dX8_stroke_54 : decode cX8_stroke 54 = .ok (.iload_n 1, 1) := by decide +kernel
theorem dX8_stroke_55 : decode cX8_stroke 55 = .ok (.aaload, 1) := by decide +kernel
theorem dX8_stroke_56 : decode cX8_stroke 56 = .ok (.getfield 156, 3) := by decide +kernel
theorem dX8_stroke_59 : decode cX8_stroke 59 = .ok (.ireturn, 1) := by decide +kernel
theorem dX8_round_0 : decode cX8_round 0 = .ok (.aload_n 0, 1) := by decide +kernel
theorem dX8_round_1 : decode cX8_round 1 = .ok (.iload_n 1, 1) := by decide +kernel
theorem dX8_round_2 : decode cX8_round 2 = .ok (.invokevirtual 187, 3) := by decide +kernel
theorem dX8_round_5 : decode cX8_round 5 = .ok (.istore_n 2, 1) := by decide +kernel
theorem dX8_round_6 : decode cX8_round 6 = .ok (.iload_n 2, 1) := by decide +kernel
theorem dX8_round_7 : decode cX8_round 7 = .ok (.ifCond .eq 5, 3) := by decide +kernel
theorem dX8_round_10 : decode cX8_round 10 = .ok (.iload_n 2, 1) := by decide +kernel
theorem dX8_round_11 : decode cX8_round 11 = .ok (.ireturn, 1) := by decide +kernel
theorem dX8_round_12 : decode cX8_round 12 = .ok (.aload_n 0, 1) := by decide +kernel
theorem dX8_round_13 : decode cX8_round 13 = .ok (.getfield 25, 3) := by decide +kernel
theorem dX8_round_16 : decode cX8_round 16 = .ok (.invokevirtual 177, 3) := by decide +kernel
theorem dX8_round_19 : decode cX8_round 19 = .ok (.iconst 1, 1) := by decide +kernel
theorem dX8_round_20 : decode cX8_round 20 = .ok (.if_icmp .ge 6, 3) := by decide +kernel
theorem dX8_round_23 : decode cX8_round 23 = .ok (.bipush (-2), 2) := by decide +kernel
theorem dX8_round_25 : decode cX8_round 25 = .ok (.ireturn, 1) := by decide +kernel
theorem dX8_round_26 : decode cX8_round 26 = .ok (.aload_n 0, 1) := by decide +kernel
theorem dX8_round_27 : decode cX8_round 27 = .ok (.aload_n 0, 1) := by decide +kernel
theorem dX8_round_28 : decode cX8_round 28 = .ok (.getfield 11, 3) := by decide +kernel
theorem dX8_round_31 : decode cX8_round 31 = .ok (.iload_n 1, 1) := by decide +kernel
theorem dX8_round_32 : decode cX8_round 32 = .ok (.aaload, 1) := by decide +kernel
theorem dX8_round_33 : decode cX8_round 33 = .ok (.invokevirtual 190, 3) := by decide +kernel
theorem dX8_round_36 : decode cX8_round 36 = .ok (.aload_n 0, 1) := by decide +kernel
theorem dX8_round_37 : decode cX8_round 37 = .ok (.getfield 25, 3) := by decide +kernel
theorem dX8_round_40 : decode cX8_round 40 = .ok (.aload_n 0, 1) := by decide +kernel
theorem dX8_round_41 : decode cX8_round 41 = .ok (.getfield 11, 3) := by decide +kernel
theorem dX8_round_44 : decode cX8_round 44 = .ok (.iload_n 1, 1) := by decide +kernel
theorem dX8_round_45 : decode cX8_round 45 = .ok (.aaload, 1) := by decide +kernel
theorem dX8_round_46 : decode cX8_round 46 = .ok (.invokestatic 194, 3) := by decide +kernel
theorem dX8_round_49 : decode cX8_round 49 = .ok (.invokevirtual 184, 3) := by decide +kernel
theorem dX8_round_52 : decode cX8_round 52 = .ok (.aload_n 0, 1) := by decide +kernel
theorem dX8_round_53 : decode cX8_round 53 = .ok (.getfield 35, 3) := by decide +kernel
theorem dX8_round_56 : decode cX8_round 56 = .ok (.invokevirtual 197, 3) := by decide +kernel
theorem dX8_round_59 : decode cX8_round 59 = .ok (.ireturn, 1) := by decide +kernel
theorem dX8_mend_0 : decode cX8_mend 0 = .ok (.aload_n 0, 1) := by decide +kernel
theorem dX8_mend_1 : decode cX8_mend 1 = .ok (.getfield 25, 3) := by decide +kernel
theorem dX8_mend_4 : decode cX8_mend 4 = .ok (.iload_n 1, 1) := by decide +kernel
theorem dX8_mend_5 : decode cX8_mend 5 = .ok (.invokevirtual 136, 3) := by decide +kernel
theorem dX8_mend_8 : decode cX8_mend 8 = .ok (.ifCond .ne 5, 3) := by decide +kernel
theorem dX8_mend_11 : decode cX8_mend 11 = .ok (.iconst (-1), 1) := by decide +kernel
theorem dX8_mend_12 : decode cX8_mend 12 = .ok (.ireturn, 1) := by decide +kernel
theorem dX8_mend_13 : decode cX8_mend 13 = .ok (.aload_n 0, 1) := by decide +kernel
theorem dX8_mend_14 : decode cX8_mend 14 = .ok (.getfield 25, 3) := by decide +kernel
theorem dX8_mend_17 : decode cX8_mend 17 = .ok (.getfield 137, 3) := by decide +kernel
theorem dX8_mend_20 : decode cX8_mend 20 = .ok (.iload_n 1, 1) := by decide +kernel
theorem dX8_mend_21 : decode cX8_mend 21 = .ok (.aaload, 1) := by decide +kernel
theorem dX8_mend_22 : decode cX8_mend 22 = .ok (.getfield 200, 3) := by decide +kernel
theorem dX8_mend_25 : decode cX8_mend 25 = .ok (.ifCond .ne 6, 3) := by decide +kernel
theorem dX8_mend_28 : decode cX8_mend 28 = .ok (.bipush (-4), 2) := by decide +kernel
theorem dX8_mend_30 : decode cX8_mend 30 = .ok (.ireturn, 1) := by decide +kernel
theorem dX8_mend_31 : decode cX8_mend 31 = .ok (.aload_n 0, 1) := by decide +kernel
theorem dX8_mend_32 : decode cX8_mend 32 = .ok (.getfield 25, 3) := by decide +kernel
theorem dX8_mend_35 : decode cX8_mend 35 = .ok (.invokevirtual 177, 3) := by decide +kernel
theorem dX8_mend_38 : decode cX8_mend 38 = .ok (.iconst 1, 1) := by decide +kernel
theorem dX8_mend_39 : decode cX8_mend 39 = .ok (.if_icmp .ge 6, 3) := by decide +kernel
theorem dX8_mend_42 : decode cX8_mend 42 = .ok (.bipush (-2), 2) := by decide +kernel
theorem dX8_mend_44 : decode cX8_mend 44 = .ok (.ireturn, 1) := by decide +kernel
theorem dX8_mend_45 : decode cX8_mend 45 = .ok (.aload_n 0, 1) := by decide +kernel
theorem dX8_mend_46 : decode cX8_mend 46 = .ok (.getfield 25, 3) := by decide +kernel
theorem dX8_mend_49 : decode cX8_mend 49 = .ok (.iload_n 1, 1) := by decide +kernel
theorem dX8_mend_50 : decode cX8_mend 50 = .ok (.invokestatic 203, 3) := by decide +kernel
theorem dX8_mend_53 : decode cX8_mend 53 = .ok (.invokevirtual 184, 3) := by decide +kernel
theorem dX8_mend_56 : decode cX8_mend 56 = .ok (.iconst 1, 1) := by decide +kernel
theorem dX8_mend_57 : decode cX8_mend 57 = .ok (.ireturn, 1) := by decide +kernel
theorem dX8_undo_0 : decode cX8_undo 0 = .ok (.iload_n 1, 1) := by decide +kernel
theorem dX8_undo_1 : decode cX8_undo 1 = .ok (.ifCond .lt 14, 3) := by decide +kernel
theorem dX8_undo_4 : decode cX8_undo 4 = .ok (.iload_n 1, 1) := by decide +kernel
theorem dX8_undo_5 : decode cX8_undo 5 = .ok (.aload_n 0, 1) := by decide +kernel
theorem dX8_undo_6 : decode cX8_undo 6 = .ok (.getfield 25, 3) := by decide +kernel
theorem dX8_undo_9 : decode cX8_undo 9 = .ok (.getfield 206, 3) := by decide +kernel
theorem dX8_undo_12 : decode cX8_undo 12 = .ok (.if_icmp .le 5, 3) := by decide +kernel
theorem dX8_undo_15 : decode cX8_undo 15 = .ok (.iconst (-1), 1) := by decide +kernel
theorem dX8_undo_16 : decode cX8_undo 16 = .ok (.ireturn, 1) := by decide +kernel
theorem dX8_undo_17 : decode cX8_undo 17 = .ok (.aload_n 0, 1) := by decide +kernel
theorem dX8_undo_18 : decode cX8_undo 18 = .ok (.getfield 25, 3) := by decide +kernel
theorem dX8_undo_21 : decode cX8_undo 21 = .ok (.getfield 206, 3) := by decide +kernel
theorem dX8_undo_24 : decode cX8_undo 24 = .ok (.iload_n 1, 1) := by decide +kernel
theorem dX8_undo_25 : decode cX8_undo 25 = .ok (.isub, 1) := by decide +kernel
theorem dX8_undo_26 : decode cX8_undo 26 = .ok (.istore_n 2, 1) := by decide +kernel
theorem dX8_undo_27 : decode cX8_undo 27 = .ok (.aload_n 0, 1) := by decide +kernel
theorem dX8_undo_28 : decode cX8_undo 28 = .ok (.getfield 25, 3) := by decide +kernel
theorem dX8_undo_31 : decode cX8_undo 31 = .ok (.iload_n 1, 1) := by decide +kernel
theorem dX8_undo_32 : decode cX8_undo 32 = .ok (.invokevirtual 209, 3) := by decide +kernel
theorem dX8_undo_35 : decode cX8_undo 35 = .ok (.iload_n 2, 1) := by decide +kernel
theorem dX8_undo_36 : decode cX8_undo 36 = .ok (.ireturn, 1) := by decide +kernel
theorem dX8_keep_0 : decode cX8_keep 0 = .ok (.iload_n 1, 1) := by decide +kernel
theorem dX8_keep_1 : decode cX8_keep 1 = .ok (.invokestatic 212, 3) := by decide +kernel
theorem dX8_keep_4 : decode cX8_keep 4 = .ok (.ifCond .ne 5, 3) := by decide +kernel
theorem dX8_keep_7 : decode cX8_keep 7 = .ok (.iconst (-1), 1) := by decide +kernel
theorem dX8_keep_8 : decode cX8_keep 8 = .ok (.ireturn, 1) := by decide +kernel
theorem dX8_keep_9 : decode cX8_keep 9 = .ok (.aload_n 0, 1) := by decide +kernel
theorem dX8_keep_10 : decode cX8_keep 10 = .ok (.getfield 25, 3) := by decide +kernel
theorem dX8_keep_13 : decode cX8_keep 13 = .ok (.getfield 135, 3) := by decide +kernel
theorem dX8_keep_16 : decode cX8_keep 16 = .ok (.ifCond .ne 6, 3) := by decide +kernel
theorem dX8_keep_19 : decode cX8_keep 19 = .ok (.bipush (-4), 2) := by decide +kernel
theorem dX8_keep_21 : decode cX8_keep 21 = .ok (.ireturn, 1) := by decide +kernel
theorem dX8_keep_22 : decode cX8_keep 22 = .ok (.aload_n 0, 1) := by decide +kernel
theorem dX8_keep_23 : decode cX8_keep 23 = .ok (.getfield 20, 3) := by decide +kernel
theorem dX8_keep_26 : decode cX8_keep 26 = .ok (.iload_n 1, 1) := by decide +kernel
theorem dX8_keep_27 : decode cX8_keep 27 = .ok (.aaload, 1) := by decide +kernel
theorem dX8_keep_28 : decode cX8_keep 28 = .ok (.aload_n 0, 1) := by decide +kernel
theorem dX8_keep_29 : decode cX8_keep 29 = .ok (.getfield 25, 3) := by decide +kernel
theorem dX8_keep_32 : decode cX8_keep 32 = .ok (.invokevirtual 128, 3) := by decide +kernel
theorem dX8_keep_35 : decode cX8_keep 35 = .ok (.aload_n 0, 1) := by decide +kernel
theorem dX8_keep_36 : decode cX8_keep 36 = .ok (.getfield 25, 3) := by decide +kernel
theorem dX8_keep_39 : decode cX8_keep 39 = .ok (.getfield 206, 3) := by decide +kernel
theorem dX8_keep_42 : decode cX8_keep 42 = .ok (.ireturn, 1) := by decide +kernel
theorem dX8_on_0 : decode cX8_on 0 = .ok (.iload_n 1, 1) := by decide +kernel
theorem dX8_on_1 : decode cX8_on 1 = .ok (.invokestatic 212, 3) := by decide +kernel
theorem dX8_on_4 : decode cX8_on 4 = .ok (.ifCond .ne 5, 3) := by decide +kernel
theorem dX8_on_7 : decode cX8_on 7 = .ok (.iconst (-1), 1) := by decide +kernel
theorem dX8_on_8 : decode cX8_on 8 = .ok (.ireturn, 1) := by decide +kernel
theorem dX8_on_9 : decode cX8_on 9 = .ok (.aload_n 0, 1) := by decide +kernel
theorem dX8_on_10 : decode cX8_on 10 = .ok (.getfield 20, 3) := by decide +kernel
theorem dX8_on_13 : decode cX8_on 13 = .ok (.iload_n 1, 1) := by decide +kernel
theorem dX8_on_14 : decode cX8_on 14 = .ok (.aaload, 1) := by decide +kernel
theorem dX8_on_15 : decode cX8_on 15 = .ok (.getfield 135, 3) := by decide +kernel
theorem dX8_on_18 : decode cX8_on 18 = .ok (.ifCond .ne 9, 3) := by decide +kernel
theorem dX8_on_21 : decode cX8_on 21 = .ok (.aload_n 0, 1) := by decide +kernel
theorem dX8_on_22 : decode cX8_on 22 = .ok (.iconst 1, 1) := by decide +kernel
theorem dX8_on_23 : decode cX8_on 23 = .ok (.invokevirtual 101, 3) := by decide +kernel
theorem dX8_on_26 : decode cX8_on 26 = .ok (.ireturn, 1) := by decide +kernel
theorem dX8_on_27 : decode cX8_on 27 = .ok (.aload_n 0, 1) := by decide +kernel
theorem dX8_on_28 : decode cX8_on 28 = .ok (.getfield 25, 3) := by decide +kernel
theorem dX8_on_31 : decode cX8_on 31 = .ok (.aload_n 0, 1) := by decide +kernel
theorem dX8_on_32 : decode cX8_on 32 = .ok (.getfield 20, 3) := by decide +kernel
theorem dX8_on_35 : decode cX8_on 35 = .ok (.iload_n 1, 1) := by decide +kernel
theorem dX8_on_36 : decode cX8_on 36 = .ok (.aaload, 1) := by decide +kernel
theorem dX8_on_37 : decode cX8_on 37 = .ok (.invokevirtual 128, 3) := by decide +kernel
theorem dX8_on_40 : decode cX8_on 40 = .ok (.aload_n 0, 1) := by decide +kernel
theorem dX8_on_41 : decode cX8_on 41 = .ok (.getfield 25, 3) := by decide +kernel
theorem dX8_on_44 : decode cX8_on 44 = .ok (.getfield 206, 3) := by decide +kernel
theorem dX8_on_47 : decode cX8_on 47 = .ok (.ireturn, 1) := by decide +kernel
theorem dX8_strikes_0 : decode cX8_strikes 0 = .ok (.iload_n 2, 1) := by decide +kernel
theorem dX8_strikes_1 : decode cX8_strikes 1 = .ok (.invokestatic 171, 3) := by decide +kernel
theorem dX8_strikes_4 : decode cX8_strikes 4 = .ok (.ifCond .ne 5, 3) := by decide +kernel
theorem dX8_strikes_7 : decode cX8_strikes 7 = .ok (.iconst (-1), 1) := by decide +kernel
theorem dX8_strikes_8 : decode cX8_strikes 8 = .ok (.ireturn, 1) := by decide +kernel
theorem dX8_strikes_9 : decode cX8_strikes 9 = .ok (.aload_n 0, 1) := by decide +kernel
theorem dX8_strikes_10 : decode cX8_strikes 10 = .ok (.iload_n 1, 1) := by decide +kernel
theorem dX8_strikes_11 : decode cX8_strikes 11 = .ok (.invokevirtual 174, 3) := by decide +kernel
theorem dX8_strikes_14 : decode cX8_strikes 14 = .ok (.istore_n 3, 1) := by decide +kernel
theorem dX8_strikes_15 : decode cX8_strikes 15 = .ok (.iload_n 3, 1) := by decide +kernel
theorem dX8_strikes_16 : decode cX8_strikes 16 = .ok (.ifCond .eq 7, 3) := by decide +kernel
theorem dX8_strikes_19 : decode cX8_strikes 19 = .ok (.iload_n 3, 1) := by decide +kernel
theorem dX8_strikes_20 : decode cX8_strikes 20 = .ok (.goto 12, 3) := by decide +kernel
theorem dX8_strikes_23 : decode cX8_strikes 23 = .ok (.aload_n 0, 1) := by decide +kernel
theorem dX8_strikes_24 : decode cX8_strikes 24 = .ok (.getfield 25, 3) := by decide +kernel
theorem dX8_strikes_27 : decode cX8_strikes 27 = .ok (.iload_n 1, 1) := by decide +kernel
theorem dX8_strikes_28 : decode cX8_strikes 28 = .ok (.iload_n 2, 1) := by decide +kernel
theorem dX8_strikes_29 : decode cX8_strikes 29 = .ok (.invokevirtual 159, 3) := by decide +kernel
theorem dX8_strikes_32 : decode cX8_strikes 32 = .ok (.ireturn, 1) := by decide +kernel
theorem dX8_stands_0 : decode cX8_stands 0 = .ok (.aload_n 0, 1) := by decide +kernel
theorem dX8_stands_1 : decode cX8_stands 1 = .ok (.iload_n 1, 1) := by decide +kernel
theorem dX8_stands_2 : decode cX8_stands 2 = .ok (.invokevirtual 174, 3) := by decide +kernel
theorem dX8_stands_5 : decode cX8_stands 5 = .ok (.istore_n 2, 1) := by decide +kernel
theorem dX8_stands_6 : decode cX8_stands 6 = .ok (.iload_n 2, 1) := by decide +kernel
theorem dX8_stands_7 : decode cX8_stands 7 = .ok (.ifCond .eq 5, 3) := by decide +kernel
theorem dX8_stands_10 : decode cX8_stands 10 = .ok (.iload_n 2, 1) := by decide +kernel
theorem dX8_stands_11 : decode cX8_stands 11 = .ok (.ireturn, 1) := by decide +kernel
theorem dX8_stands_12 : decode cX8_stands 12 = .ok (.aload_n 0, 1) := by decide +kernel
theorem dX8_stands_13 : decode cX8_stands 13 = .ok (.getfield 25, 3) := by decide +kernel
theorem dX8_stands_16 : decode cX8_stands 16 = .ok (.getfield 137, 3) := by decide +kernel
theorem dX8_stands_19 : decode cX8_stands 19 = .ok (.iload_n 1, 1) := by decide +kernel
theorem dX8_stands_20 : decode cX8_stands 20 = .ok (.aaload, 1) := by decide +kernel
theorem dX8_stands_21 : decode cX8_stands 21 = .ok (.astore_n 3, 1) := by decide +kernel
theorem dX8_stands_22 : decode cX8_stands 22 = .ok (.iconst 0, 1) := by decide +kernel
theorem dX8_stands_23 : decode cX8_stands 23 = .ok (.istore 4, 2) := by decide +kernel
theorem dX8_stands_25 : decode cX8_stands 25 = .ok (.iconst 0, 1) := by decide +kernel
theorem dX8_stands_26 : decode cX8_stands 26 = .ok (.istore 5, 2) := by decide +kernel
theorem dX8_stands_28 : decode cX8_stands 28 = .ok (.iconst 0, 1) := by decide +kernel
theorem dX8_stands_29 : decode cX8_stands 29 = .ok (.istore 6, 2) := by decide +kernel
theorem dX8_stands_31 : decode cX8_stands 31 = .ok (.iload 6, 2) := by decide +kernel
theorem dX8_stands_33 : decode cX8_stands 33 = .ok (.bipush 7, 2) := by decide +kernel
theorem dX8_stands_35 : decode cX8_stands 35 = .ok (.if_icmp .ge 58, 3) := by decide +kernel
theorem dX8_stands_38 : decode cX8_stands 38 = .ok (.aload_n 3, 1) := by decide +kernel
theorem dX8_stands_39 : decode cX8_stands 39 = .ok (.getfield 146, 3) := by decide +kernel
theorem dX8_stands_42 : decode cX8_stands 42 = .ok (.aload_n 3, 1) := by decide +kernel
theorem dX8_stands_43 : decode cX8_stands 43 = .ok (.getfield 156, 3) := by decide +kernel
theorem dX8_stands_46 : decode cX8_stands 46 = .ok (.iload 6, 2) := by decide +kernel
theorem dX8_stands_48 : decode cX8_stands 48 = .ok (.invokestatic 215, 3) := by decide +kernel
theorem dX8_stands_51 : decode cX8_stands 51 = .ok (.istore 7, 2) := by decide +kernel
theorem dX8_stands_53 : decode cX8_stands 53 = .ok (.iload 7, 2) := by decide +kernel
theorem dX8_stands_55 : decode cX8_stands 55 = .ok (.bipush 20, 2) := by decide +kernel
theorem dX8_stands_57 : decode cX8_stands 57 = .ok (.if_icmp .ne 15, 3) := by decide +kernel
theorem dX8_stands_60 : decode cX8_stands 60 = .ok (.iload 4, 2) := by decide +kernel
theorem dX8_stands_62 : decode cX8_stands 62 = .ok (.iconst 1, 1) := by decide +kernel
theorem dX8_stands_63 : decode cX8_stands 63 = .ok (.iload 6, 2) := by decide +kernel
theorem dX8_stands_65 : decode cX8_stands 65 = .ok (.ishl, 1) := by decide +kernel
theorem dX8_stands_66 : decode cX8_stands 66 = .ok (.ior, 1) := by decide +kernel
theorem dX8_stands_67 : decode cX8_stands 67 = .ok (.istore 4, 2) := by decide +kernel
theorem dX8_stands_69 : decode cX8_stands 69 = .ok (.goto 18, 3) := by decide +kernel
theorem dX8_stands_72 : decode cX8_stands 72 = .ok (.iload 7, 2) := by decide +kernel
theorem dX8_stands_74 : decode cX8_stands 74 = .ok (.iconst (-1), 1) := by decide +kernel
theorem dX8_stands_75 : decode cX8_stands 75 = .ok (.if_icmp .ne 12, 3) := by decide +kernel
theorem dX8_stands_78 : decode cX8_stands 78 = .ok (.iload 5, 2) := by decide +kernel
theorem dX8_stands_80 : decode cX8_stands 80 = .ok (.iconst 1, 1) := by decide +kernel
theorem dX8_stands_81 : decode cX8_stands 81 = .ok (.iload 6, 2) := by decide +kernel
theorem dX8_stands_83 : decode cX8_stands 83 = .ok (.ishl, 1) := by decide +kernel
theorem dX8_stands_84 : decode cX8_stands 84 = .ok (.ior, 1) := by decide +kernel
theorem dX8_stands_85 : decode cX8_stands 85 = .ok (.istore 5, 2) := by decide +kernel
theorem dX8_stands_87 : decode cX8_stands 87 = .ok (.iinc 6 1, 3) := by decide +kernel
theorem dX8_stands_90 : decode cX8_stands 90 = .ok (.goto (-59), 3) := by decide +kernel
theorem dX8_stands_93 : decode cX8_stands 93 = .ok (.aload_n 0, 1) := by decide +kernel
theorem dX8_stands_94 : decode cX8_stands 94 = .ok (.iload 5, 2) := by decide +kernel
theorem dX8_stands_96 : decode cX8_stands 96 = .ok (.putfield 93, 3) := by decide +kernel
theorem dX8_stands_99 : decode cX8_stands 99 = .ok (.iload 4, 2) := by decide +kernel
theorem dX8_stands_101 : decode cX8_stands 101 = .ok (.ireturn, 1) := by decide +kernel
theorem dX8_raise_0 : decode cX8_raise 0 = .ok (.iload_n 2, 1) := by decide +kernel
theorem dX8_raise_1 : decode cX8_raise 1 = .ok (.invokestatic 78, 3) := by decide +kernel
theorem dX8_raise_4 : decode cX8_raise 4 = .ok (.ifCond .eq 11, 3) := by decide +kernel
theorem dX8_raise_7 : decode cX8_raise 7 = .ok (.aload_n 0, 1) := by decide +kernel
theorem dX8_raise_8 : decode cX8_raise 8 = .ok (.iload_n 1, 1) := by decide +kernel
theorem dX8_raise_9 : decode cX8_raise 9 = .ok (.invokevirtual 174, 3) := by decide +kernel
theorem dX8_raise_12 : decode cX8_raise 12 = .ok (.goto 4, 3) := by decide +kernel
theorem dX8_raise_15 : decode cX8_raise 15 = .ok (.iconst (-1), 1) := by decide +kernel
theorem dX8_raise_16 : decode cX8_raise 16 = .ok (.istore_n 3, 1) := by decide +kernel
theorem dX8_raise_17 : decode cX8_raise 17 = .ok (.iload_n 3, 1) := by decide +kernel
theorem dX8_raise_18 : decode cX8_raise 18 = .ok (.ifCond .eq 5, 3) := by decide +kernel
theorem dX8_raise_21 : decode cX8_raise 21 = .ok (.iload_n 3, 1) := by decide +kernel
theorem dX8_raise_22 : decode cX8_raise 22 = .ok (.ireturn, 1) := by decide +kernel
theorem dX8_raise_23 : decode cX8_raise 23 = .ok (.aload_n 0, 1) := by decide +kernel
theorem dX8_raise_24 : decode cX8_raise 24 = .ok (.getfield 25, 3) := by decide +kernel
theorem dX8_raise_27 : decode cX8_raise 27 = .ok (.getfield 137, 3) := by decide +kernel
theorem dX8_raise_30 : decode cX8_raise 30 = .ok (.iload_n 1, 1) := by decide +kernel
theorem dX8_raise_31 : decode cX8_raise 31 = .ok (.aaload, 1) := by decide +kernel
theorem dX8_raise_32 : decode cX8_raise 32 = .ok (.astore 4, 2) := by decide +kernel
theorem dX8_raise_34 : decode cX8_raise 34 = .ok (.aload_n 0, 1) := by decide +kernel
theorem dX8_raise_35 : decode cX8_raise 35 = .ok (.getfield 49, 3) := by decide +kernel
theorem dX8_raise_38 : decode cX8_raise 38 = .ok (.aload 4, 2) := by decide +kernel
theorem dX8_raise_40 : decode cX8_raise 40 = .ok (.getfield 146, 3) := by decide +kernel
theorem dX8_raise_43 : decode cX8_raise 43 = .ok (.bipush 20, 2) := by decide +kernel
theorem dX8_raise_45 : decode cX8_raise 45 = .ok (.invokevirtual 219, 3) := by decide +kernel
theorem dX8_raise_48 : decode cX8_raise 48 = .ok (.aload_n 0, 1) := by decide +kernel
theorem dX8_raise_49 : decode cX8_raise 49 = .ok (.getfield 49, 3) := by decide +kernel
theorem dX8_raise_52 : decode cX8_raise 52 = .ok (.aload 4, 2) := by decide +kernel
theorem dX8_raise_54 : decode cX8_raise 54 = .ok (.getfield 156, 3) := by decide +kernel
theorem dX8_raise_57 : decode cX8_raise 57 = .ok (.invokevirtual 223, 3) := by decide +kernel
theorem dX8_raise_60 : decode cX8_raise 60 = .ok (.istore 5, 2) := by decide +kernel
theorem dX8_raise_62 : decode cX8_raise 62 = .ok (.iload 5, 2) := by decide +kernel
theorem dX8_raise_64 : decode cX8_raise 64 = .ok (.bipush (-9), 2) := by decide +kernel
theorem dX8_raise_66 : decode cX8_raise 66 = .ok (.if_icmp .eq 20, 3) := by decide +kernel
theorem dX8_raise_69 : decode cX8_raise 69 = .ok (.aload_n 0, 1) := by decide +kernel
theorem dX8_raise_70 : decode cX8_raise 70 = .ok (.getfield 49, 3) := by decide +kernel
theorem dX8_raise_73 : decode cX8_raise 73 = .ok (.aload 4, 2) := by decide +kernel
theorem dX8_raise_75 : decode cX8_raise 75 = .ok (.iload 5, 2) := by decide +kernel
theorem dX8_raise_77 : decode cX8_raise 77 = .ok (.aload_n 0, 1) := by decide +kernel
theorem dX8_raise_78 : decode cX8_raise 78 = .ok (.getfield 11, 3) := by decide +kernel
theorem dX8_raise_81 : decode cX8_raise 81 = .ok (.iload_n 2, 1) := by decide +kernel
theorem dX8_raise_82 : decode cX8_raise 82 = .ok (.aaload, 1) := by decide +kernel
theorem dX8_raise_83 : decode cX8_raise 83 = .ok (.invokevirtual 226, 3) := by decide +kernel
theorem dX8_raise_86 : decode cX8_raise 86 = .ok (.iload 5, 2) := by decide +kernel
theorem dX8_raise_88 : decode cX8_raise 88 = .ok (.ireturn, 1) := by decide +kernel
theorem dX8_ways_0 : decode cX8_ways 0 = .ok (.iload_n 2, 1) := by decide +kernel
theorem dX8_ways_1 : decode cX8_ways 1 = .ok (.ifCond .lt 9, 3) := by decide +kernel
theorem dX8_ways_4 : decode cX8_ways 4 = .ok (.iload_n 2, 1) := by decide +kernel
theorem dX8_ways_5 : decode cX8_ways 5 = .ok (.bipush 12, 2) := by decide +kernel
theorem dX8_ways_7 : decode cX8_ways 7 = .ok (.if_icmp .le 5, 3) := by decide +kernel
theorem dX8_ways_10 : decode cX8_ways 10 = .ok (.iconst (-1), 1) := by decide +kernel
theorem dX8_ways_11 : decode cX8_ways 11 = .ok (.ireturn, 1) := by decide +kernel
theorem dX8_ways_12 : decode cX8_ways 12 = .ok (.aload_n 0, 1) := by decide +kernel
theorem dX8_ways_13 : decode cX8_ways 13 = .ok (.iload_n 1, 1) := by decide +kernel
theorem dX8_ways_14 : decode cX8_ways 14 = .ok (.invokevirtual 174, 3) := by decide +kernel
theorem dX8_ways_17 : decode cX8_ways 17 = .ok (.istore_n 3, 1) := by decide +kernel
theorem dX8_ways_18 : decode cX8_ways 18 = .ok (.iload_n 3, 1) := by decide +kernel
theorem dX8_ways_19 : decode cX8_ways 19 = .ok (.ifCond .eq 5, 3) := by decide +kernel
theorem dX8_ways_22 : decode cX8_ways 22 = .ok (.iload_n 3, 1) := by decide +kernel
theorem dX8_ways_23 : decode cX8_ways 23 = .ok (.ireturn, 1) := by decide +kernel
theorem dX8_ways_24 : decode cX8_ways 24 = .ok (.aload_n 0, 1) := by decide +kernel
theorem dX8_ways_25 : decode cX8_ways 25 = .ok (.getfield 25, 3) := by decide +kernel
theorem dX8_ways_28 : decode cX8_ways 28 = .ok (.getfield 137, 3) := by decide +kernel
theorem dX8_ways_31 : decode cX8_ways 31 = .ok (.iload_n 1, 1) := by decide +kernel
theorem dX8_ways_32 : decode cX8_ways 32 = .ok (.aaload, 1) := by decide +kernel
theorem dX8_ways_33 : decode cX8_ways 33 = .ok (.astore 4, 2) := by decide +kernel
theorem dX8_ways_35 : decode cX8_ways 35 = .ok (.aload_n 0, 1) := by decide +kernel
theorem dX8_ways_36 : decode cX8_ways 36 = .ok (.getfield 56, 3) := by decide +kernel
theorem dX8_ways_39 : decode cX8_ways 39 = .ok (.aload 4, 2) := by decide +kernel
theorem dX8_ways_41 : decode cX8_ways 41 = .ok (.getfield 156, 3) := by decide +kernel
theorem dX8_ways_44 : decode cX8_ways 44 = .ok (.invokevirtual 230, 3) := by decide +kernel
theorem dX8_ways_47 : decode cX8_ways 47 = .ok (.iconst 0, 1) := by decide +kernel
theorem dX8_ways_48 : decode cX8_ways 48 = .ok (.istore 5, 2) := by decide +kernel
theorem dX8_ways_50 : decode cX8_ways 50 = .ok (.iload 5, 2) := by decide +kernel
theorem dX8_ways_52 : decode cX8_ways 52 = .ok (.iload_n 2, 1) := by decide +kernel
theorem dX8_ways_53 : decode cX8_ways 53 = .ok (.if_icmp .ge 47, 3) := by decide +kernel
theorem dX8_ways_56 : decode cX8_ways 56 = .ok (.iconst 0, 1) := by decide +kernel
theorem dX8_ways_57 : decode cX8_ways 57 = .ok (.istore 6, 2) := by decide +kernel
theorem dX8_ways_59 : decode cX8_ways 59 = .ok (.iload 6, 2) := by decide +kernel
theorem dX8_ways_61 : decode cX8_ways 61 = .ok (.bipush 7, 2) := by decide +kernel
theorem dX8_ways_63 : decode cX8_ways 63 = .ok (.if_icmp .ge 24, 3) := by decide +kernel
theorem dX8_ways_66 : decode cX8_ways 66 = .ok (.aload_n 0, 1) := by decide +kernel
theorem dX8_ways_67 : decode cX8_ways 67 = .ok (.getfield 56, 3) := by decide +kernel
theorem dX8_ways_70 : decode cX8_ways 70 = .ok (.aload 4, 2) := by decide +kernel
theorem dX8_ways_72 : decode cX8_ways 72 = .ok (.getfield 146, 3) := by decide +kernel
theorem dX8_ways_75 : decode cX8_ways 75 = .ok (.iload 6, 2) := by decide +kernel
theorem dX8_ways_77 : decode cX8_ways 77 = .ok (.lconst 1, 1) := by decide +kernel
theorem dX8_ways_78 : decode cX8_ways 78 = .ok (.invokevirtual 233, 3) := by decide +kernel
theorem dX8_ways_81 : decode cX8_ways 81 = .ok (.iinc 6 1, 3) := by decide +kernel
theorem dX8_ways_84 : decode cX8_ways 84 = .ok (.goto (-25), 3) := by decide +kernel
theorem dX8_ways_87 : decode cX8_ways 87 = .ok (.aload_n 0, 1) := by decide +kernel
theorem dX8_ways_88 : decode cX8_ways 88 = .ok (.getfield 56, 3) := by decide +kernel
theorem dX8_ways_91 : decode cX8_ways 91 = .ok (.invokevirtual 237, 3) := by decide +kernel
theorem dX8_ways_94 : decode cX8_ways 94 = .ok (.iinc 5 1, 3) := by decide +kernel
theorem dX8_ways_97 : decode cX8_ways 97 = .ok (.goto (-47), 3) := by decide +kernel
theorem dX8_ways_100 : decode cX8_ways 100 = .ok (.aload_n 0, 1) := by decide +kernel
theorem dX8_ways_101 : decode cX8_ways 101 = .ok (.aload_n 0, 1) := by decide +kernel
theorem dX8_ways_102 : decode cX8_ways 102 = .ok (.getfield 56, 3) := by decide +kernel
theorem dX8_ways_105 : decode cX8_ways 105 = .ok (.getfield 240, 3) := by decide +kernel
theorem dX8_ways_108 : decode cX8_ways 108 = .ok (.bipush 20, 2) := by decide +kernel
theorem dX8_ways_110 : decode cX8_ways 110 = .ok (.laload, 1) := by decide +kernel
theorem dX8_ways_111 : decode cX8_ways 111 = .ok (.lconst 1, 1) := by decide +kernel
theorem dX8_ways_112 : decode cX8_ways 112 = .ok (.invokevirtual 244, 3) := by decide +kernel
theorem dX8_ways_115 : decode cX8_ways 115 = .ok (.ireturn, 1) := by decide +kernel
theorem dX8_arms_0 : decode cX8_arms 0 = .ok (.iload_n 2, 1) := by decide +kernel
theorem dX8_arms_1 : decode cX8_arms 1 = .ok (.ifCond .lt 27, 3) := by decide +kernel
theorem dX8_arms_4 : decode cX8_arms 4 = .ok (.iload_n 2, 1) := by decide +kernel
theorem dX8_arms_5 : decode cX8_arms 5 = .ok (.bipush 12, 2) := by decide +kernel
theorem dX8_arms_7 : decode cX8_arms 7 = .ok (.if_icmp .gt 21, 3) := by decide +kernel
theorem dX8_arms_10 : decode cX8_arms 10 = .ok (.iload_n 3, 1) := by decide +kernel
theorem dX8_arms_11 : decode cX8_arms 11 = .ok (.ifCond .lt 17, 3) := by decide +kernel
theorem dX8_arms_14 : decode cX8_arms 14 = .ok (.iload_n 3, 1) := by decide +kernel
theorem dX8_arms_15 : decode cX8_arms 15 = .ok (.bipush 20, 2) := by decide +kernel
theorem dX8_arms_17 : decode cX8_arms 17 = .ok (.if_icmp .gt 11, 3) := by decide +kernel
theorem dX8_arms_20 : decode cX8_arms 20 = .ok (.iload 4, 2) := by decide +kernel
theorem dX8_arms_22 : decode cX8_arms 22 = .ok (.invokestatic 78, 3) := by decide +kernel
theorem dX8_arms_25 : decode cX8_arms 25 = .ok (.ifCond .ne 5, 3) := by decide +kernel
theorem dX8_arms_28 : decode cX8_arms 28 = .ok (.iconst (-1), 1) := by decide +kernel
theorem dX8_arms_29 : decode cX8_arms 29 = .ok (.ireturn, 1) := by decide +kernel
theorem dX8_arms_30 : decode cX8_arms 30 = .ok (.aload_n 0, 1) := by decide +kernel
theorem dX8_arms_31 : decode cX8_arms 31 = .ok (.iload_n 1, 1) := by decide +kernel
theorem dX8_arms_32 : decode cX8_arms 32 = .ok (.invokevirtual 174, 3) := by decide +kernel
theorem dX8_arms_35 : decode cX8_arms 35 = .ok (.istore 5, 2) := by decide +kernel
theorem dX8_arms_37 : decode cX8_arms 37 = .ok (.iload 5, 2) := by decide +kernel
theorem dX8_arms_39 : decode cX8_arms 39 = .ok (.ifCond .eq 6, 3) := by decide +kernel
theorem dX8_arms_42 : decode cX8_arms 42 = .ok (.iload 5, 2) := by decide +kernel
theorem dX8_arms_44 : decode cX8_arms 44 = .ok (.ireturn, 1) := by decide +kernel
theorem dX8_arms_45 : decode cX8_arms 45 = .ok (.aload_n 0, 1) := by decide +kernel
theorem dX8_arms_46 : decode cX8_arms 46 = .ok (.getfield 25, 3) := by decide +kernel
theorem dX8_arms_49 : decode cX8_arms 49 = .ok (.getfield 137, 3) := by decide +kernel
theorem dX8_arms_52 : decode cX8_arms 52 = .ok (.iload_n 1, 1) := by decide +kernel
theorem dX8_arms_53 : decode cX8_arms 53 = .ok (.aaload, 1) := by decide +kernel
theorem dX8_arms_54 : decode cX8_arms 54 = .ok (.astore 6, 2) := by decide +kernel
theorem dX8_arms_56 : decode cX8_arms 56 = .ok (.aload_n 0, 1) := by decide +kernel
theorem dX8_arms_57 : decode cX8_arms 57 = .ok (.getfield 49, 3) := by decide +kernel
theorem dX8_arms_60 : decode cX8_arms 60 = .ok (.aload 6, 2) := by decide +kernel
theorem dX8_arms_62 : decode cX8_arms 62 = .ok (.getfield 146, 3) := by decide +kernel
theorem dX8_arms_65 : decode cX8_arms 65 = .ok (.iload_n 2, 1) := by decide +kernel
theorem dX8_arms_66 : decode cX8_arms 66 = .ok (.iload_n 3, 1) := by decide +kernel
theorem dX8_arms_67 : decode cX8_arms 67 = .ok (.invokevirtual 248, 3) := by decide +kernel
theorem dX8_arms_70 : decode cX8_arms 70 = .ok (.aload_n 0, 1) := by decide +kernel
theorem dX8_arms_71 : decode cX8_arms 71 = .ok (.getfield 49, 3) := by decide +kernel
theorem dX8_arms_74 : decode cX8_arms 74 = .ok (.iload_n 2, 1) := by decide +kernel
theorem dX8_arms_75 : decode cX8_arms 75 = .ok (.aload 6, 2) := by decide +kernel
theorem dX8_arms_77 : decode cX8_arms 77 = .ok (.getfield 156, 3) := by decide +kernel
theorem dX8_arms_80 : decode cX8_arms 80 = .ok (.invokevirtual 252, 3) := by decide +kernel
theorem dX8_arms_83 : decode cX8_arms 83 = .ok (.istore 7, 2) := by decide +kernel
theorem dX8_arms_85 : decode cX8_arms 85 = .ok (.iload 7, 2) := by decide +kernel
theorem dX8_arms_87 : decode cX8_arms 87 = .ok (.bipush (-9), 2) := by decide +kernel
theorem dX8_arms_89 : decode cX8_arms 89 = .ok (.if_icmp .eq 20, 3) := by decide +kernel
theorem dX8_arms_92 : decode cX8_arms 92 = .ok (.aload_n 0, 1) := by decide +kernel
theorem dX8_arms_93 : decode cX8_arms 93 = .ok (.getfield 49, 3) := by decide +kernel
theorem dX8_arms_96 : decode cX8_arms 96 = .ok (.aload 6, 2) := by decide +kernel
theorem dX8_arms_98 : decode cX8_arms 98 = .ok (.iload_n 2, 1) := by decide +kernel
theorem dX8_arms_99 : decode cX8_arms 99 = .ok (.aload_n 0, 1) := by decide +kernel
theorem dX8_arms_100 : decode cX8_arms 100 = .ok (.getfield 11, 3) := by decide +kernel
theorem dX8_arms_103 : decode cX8_arms 103 = .ok (.iload 4, 2) := by decide +kernel
theorem dX8_arms_105 : decode cX8_arms 105 = .ok (.aaload, 1) := by decide +kernel
theorem dX8_arms_106 : decode cX8_arms 106 = .ok (.invokevirtual 255, 3) := by decide +kernel
theorem dX8_arms_109 : decode cX8_arms 109 = .ok (.iload 7, 2) := by decide +kernel
theorem dX8_arms_111 : decode cX8_arms 111 = .ok (.ireturn, 1) := by decide +kernel
theorem dX8_hold_0 : decode cX8_hold 0 = .ok (.iload_n 2, 1) := by decide +kernel
theorem dX8_hold_1 : decode cX8_hold 1 = .ok (.ifCond .lt 9, 3) := by decide +kernel
theorem dX8_hold_4 : decode cX8_hold 4 = .ok (.iload_n 2, 1) := by decide +kernel
theorem dX8_hold_5 : decode cX8_hold 5 = .ok (.bipush 40, 2) := by decide +kernel
theorem dX8_hold_7 : decode cX8_hold 7 = .ok (.if_icmp .le 5, 3) := by decide +kernel
theorem dX8_hold_10 : decode cX8_hold 10 = .ok (.iconst (-1), 1) := by decide +kernel
theorem dX8_hold_11 : decode cX8_hold 11 = .ok (.ireturn, 1) := by decide +kernel
theorem dX8_hold_12 : decode cX8_hold 12 = .ok (.aload_n 0, 1) := by decide +kernel
theorem dX8_hold_13 : decode cX8_hold 13 = .ok (.iload_n 1, 1) := by decide +kernel
theorem dX8_hold_14 : decode cX8_hold 14 = .ok (.invokevirtual 174, 3) := by decide +kernel
theorem dX8_hold_17 : decode cX8_hold 17 = .ok (.istore_n 3, 1) := by decide +kernel
theorem dX8_hold_18 : decode cX8_hold 18 = .ok (.iload_n 3, 1) := by decide +kernel
theorem dX8_hold_19 : decode cX8_hold 19 = .ok (.ifCond .eq 5, 3) := by decide +kernel
theorem dX8_hold_22 : decode cX8_hold 22 = .ok (.iload_n 3, 1) := by decide +kernel
theorem dX8_hold_23 : decode cX8_hold 23 = .ok (.ireturn, 1) := by decide +kernel
theorem dX8_hold_24 : decode cX8_hold 24 = .ok (.bipush (-9), 2) := by decide +kernel
theorem dX8_hold_26 : decode cX8_hold 26 = .ok (.istore 4, 2) := by decide +kernel
theorem dX8_hold_28 : decode cX8_hold 28 = .ok (.sipush 1000, 3) := by decide +kernel
theorem dX8_hold_31 : decode cX8_hold 31 = .ok (.istore 5, 2) := by decide +kernel
theorem dX8_hold_33 : decode cX8_hold 33 = .ok (.iconst 0, 1) := by decide +kernel
theorem dX8_hold_34 : decode cX8_hold 34 = .ok (.istore 6, 2) := by decide +kernel
theorem dX8_hold_36 : decode cX8_hold 36 = .ok (.iload 6, 2) := by decide +kernel
theorem dX8_hold_38 : decode cX8_hold 38 = .ok (.bipush 7, 2) := by decide +kernel
theorem dX8_hold_40 : decode cX8_hold 40 = .ok (.if_icmp .ge 52, 3) := by decide +kernel
theorem dX8_hold_43 : decode cX8_hold 43 = .ok (.aload_n 0, 1) := by decide +kernel
theorem dX8_hold_44 : decode cX8_hold 44 = .ok (.getfield 25, 3) := by decide +kernel
theorem dX8_hold_47 : decode cX8_hold 47 = .ok (.iload_n 1, 1) := by decide +kernel
theorem dX8_hold_48 : decode cX8_hold 48 = .ok (.iload 6, 2) := by decide +kernel
theorem dX8_hold_50 : decode cX8_hold 50 = .ok (.invokevirtual 159, 3) := by decide +kernel
theorem dX8_hold_53 : decode cX8_hold 53 = .ok (.istore 7, 2) := by decide +kernel
theorem dX8_hold_55 : decode cX8_hold 55 = .ok (.iload 7, 2) := by decide +kernel
theorem dX8_hold_57 : decode cX8_hold 57 = .ok (.iload_n 2, 1) := by decide +kernel
theorem dX8_hold_58 : decode cX8_hold 58 = .ok (.isub, 1) := by decide +kernel
theorem dX8_hold_59 : decode cX8_hold 59 = .ok (.invokestatic 258, 3) := by decide +kernel
theorem dX8_hold_62 : decode cX8_hold 62 = .ok (.istore 8, 2) := by decide +kernel
theorem dX8_hold_64 : decode cX8_hold 64 = .ok (.iload 7, 2) := by decide +kernel
theorem dX8_hold_66 : decode cX8_hold 66 = .ok (.bipush (-9), 2) := by decide +kernel
theorem dX8_hold_68 : decode cX8_hold 68 = .ok (.if_icmp .eq 18, 3) := by decide +kernel
theorem dX8_hold_71 : decode cX8_hold 71 = .ok (.iload 8, 2) := by decide +kernel
theorem dX8_hold_73 : decode cX8_hold 73 = .ok (.iload 5, 2) := by decide +kernel
theorem dX8_hold_75 : decode cX8_hold 75 = .ok (.if_icmp .ge 11, 3) := by decide +kernel
theorem dX8_hold_78 : decode cX8_hold 78 = .ok (.iload 6, 2) := by decide +kernel
theorem dX8_hold_80 : decode cX8_hold 80 = .ok (.istore 4, 2) := by decide +kernel
theorem dX8_hold_82 : decode cX8_hold 82 = .ok (.iload 8, 2) := by decide +kernel
theorem dX8_hold_84 : decode cX8_hold 84 = .ok (.istore 5, 2) := by decide +kernel
theorem dX8_hold_86 : decode cX8_hold 86 = .ok (.iinc 6 1, 3) := by decide +kernel
theorem dX8_hold_89 : decode cX8_hold 89 = .ok (.goto (-53), 3) := by decide +kernel
theorem dX8_hold_92 : decode cX8_hold 92 = .ok (.iload 4, 2) := by decide +kernel
theorem dX8_hold_94 : decode cX8_hold 94 = .ok (.bipush (-9), 2) := by decide +kernel
theorem dX8_hold_96 : decode cX8_hold 96 = .ok (.if_icmp .eq 9, 3) := by decide +kernel
theorem dX8_hold_99 : decode cX8_hold 99 = .ok (.aload_n 0, 1) := by decide +kernel
theorem dX8_hold_100 : decode cX8_hold 100 = .ok (.iload 5, 2) := by decide +kernel
theorem dX8_hold_102 : decode cX8_hold 102 = .ok (.putfield 93, 3) := by decide +kernel
theorem dX8_hold_105 : decode cX8_hold 105 = .ok (.iload 4, 2) := by decide +kernel
theorem dX8_hold_107 : decode cX8_hold 107 = .ok (.ireturn, 1) := by decide +kernel
theorem dX8_drops_0 : decode cX8_drops 0 = .ok (.aload_n 0, 1) := by decide +kernel
theorem dX8_drops_1 : decode cX8_drops 1 = .ok (.iload_n 1, 1) := by decide +kernel
theorem dX8_drops_2 : decode cX8_drops 2 = .ok (.invokevirtual 174, 3) := by decide +kernel
theorem dX8_drops_5 : decode cX8_drops 5 = .ok (.istore_n 2, 1) := by decide +kernel
theorem dX8_drops_6 : decode cX8_drops 6 = .ok (.iload_n 2, 1) := by decide +kernel
theorem dX8_drops_7 : decode cX8_drops 7 = .ok (.ifCond .eq 5, 3) := by decide +kernel
theorem dX8_drops_10 : decode cX8_drops 10 = .ok (.iload_n 2, 1) := by decide +kernel
theorem dX8_drops_11 : decode cX8_drops 11 = .ok (.ireturn, 1) := by decide +kernel
theorem dX8_drops_12 : decode cX8_drops 12 = .ok (.aload_n 0, 1) := by decide +kernel
theorem dX8_drops_13 : decode cX8_drops 13 = .ok (.getfield 25, 3) := by decide +kernel
theorem dX8_drops_16 : decode cX8_drops 16 = .ok (.getfield 137, 3) := by decide +kernel
theorem dX8_drops_19 : decode cX8_drops 19 = .ok (.iload_n 1, 1) := by decide +kernel
theorem dX8_drops_20 : decode cX8_drops 20 = .ok (.aaload, 1) := by decide +kernel
theorem dX8_drops_21 : decode cX8_drops 21 = .ok (.astore_n 3, 1) := by decide +kernel
theorem dX8_drops_22 : decode cX8_drops 22 = .ok (.aload_n 3, 1) := by decide +kernel
