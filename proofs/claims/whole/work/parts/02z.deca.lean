/-! ===== decode rows ===== -/
theorem dX0_init_0 : decode cX0_init 0 = .ok (.aload_n 0, 1) := by decide +kernel
theorem dX0_init_1 : decode cX0_init 1 = .ok (.invokespecial 3, 3) := by decide +kernel
theorem dX0_init_4 : decode cX0_init 4 = .ok (.aload_n 0, 1) := by decide +kernel
theorem dX0_init_5 : decode cX0_init 5 = .ok (.iconst (-1), 1) := by decide +kernel
theorem dX0_init_6 : decode cX0_init 6 = .ok (.putfield 9, 3) := by decide +kernel
theorem dX0_init_9 : decode cX0_init 9 = .ok (.aload_n 0, 1) := by decide +kernel
theorem dX0_init_10 : decode cX0_init 10 = .ok (.bipush 6, 2) := by decide +kernel
theorem dX0_init_12 : decode cX0_init 12 = .ok (.newarray .int, 2) := by decide +kernel
theorem dX0_init_14 : decode cX0_init 14 = .ok (.putfield 15, 3) := by decide +kernel
theorem dX0_init_17 : decode cX0_init 17 = .ok (.aload_n 0, 1) := by decide +kernel
theorem dX0_init_18 : decode cX0_init 18 = .ok (.bipush 12, 2) := by decide +kernel
theorem dX0_init_20 : decode cX0_init 20 = .ok (.newarray .int, 2) := by decide +kernel
theorem dX0_init_22 : decode cX0_init 22 = .ok (.putfield 19, 3) := by decide +kernel
theorem dX0_init_25 : decode cX0_init 25 = .ok (.aload_n 0, 1) := by decide +kernel
theorem dX0_init_26 : decode cX0_init 26 = .ok (.bipush 12, 2) := by decide +kernel
theorem dX0_init_28 : decode cX0_init 28 = .ok (.newarray .int, 2) := by decide +kernel
theorem dX0_init_30 : decode cX0_init 30 = .ok (.putfield 22, 3) := by decide +kernel
theorem dX0_init_33 : decode cX0_init 33 = .ok (.return_, 1) := by decide +kernel
theorem dX0_tell_0 : decode cX0_tell 0 = .ok (.aload_n 0, 1) := by decide +kernel
theorem dX0_tell_1 : decode cX0_tell 1 = .ok (.getfield 25, 3) := by decide +kernel
theorem dX0_tell_4 : decode cX0_tell 4 = .ok (.bipush 12, 2) := by decide +kernel
theorem dX0_tell_6 : decode cX0_tell 6 = .ok (.if_icmp .ge 33, 3) := by decide +kernel
theorem dX0_tell_9 : decode cX0_tell 9 = .ok (.aload_n 0, 1) := by decide +kernel
theorem dX0_tell_10 : decode cX0_tell 10 = .ok (.getfield 19, 3) := by decide +kernel
theorem dX0_tell_13 : decode cX0_tell 13 = .ok (.aload_n 0, 1) := by decide +kernel
theorem dX0_tell_14 : decode cX0_tell 14 = .ok (.getfield 25, 3) := by decide +kernel
theorem dX0_tell_17 : decode cX0_tell 17 = .ok (.iload_n 1, 1) := by decide +kernel
theorem dX0_tell_18 : decode cX0_tell 18 = .ok (.iastore, 1) := by decide +kernel
theorem dX0_tell_19 : decode cX0_tell 19 = .ok (.aload_n 0, 1) := by decide +kernel
theorem dX0_tell_20 : decode cX0_tell 20 = .ok (.getfield 22, 3) := by decide +kernel
theorem dX0_tell_23 : decode cX0_tell 23 = .ok (.aload_n 0, 1) := by decide +kernel
theorem dX0_tell_24 : decode cX0_tell 24 = .ok (.getfield 25, 3) := by decide +kernel
theorem dX0_tell_27 : decode cX0_tell 27 = .ok (.iload_n 2, 1) := by decide +kernel
theorem dX0_tell_28 : decode cX0_tell 28 = .ok (.iastore, 1) := by decide +kernel
theorem dX0_tell_29 : decode cX0_tell 29 = .ok (.aload_n 0, 1) := by decide +kernel
theorem dX0_tell_30 : decode cX0_tell 30 = .ok (.dup, 1) := by decide +kernel
theorem dX0_tell_31 : decode cX0_tell 31 = .ok (.getfield 25, 3) := by decide +kernel
theorem dX0_tell_34 : decode cX0_tell 34 = .ok (.iconst 1, 1) := by decide +kernel
theorem dX0_tell_35 : decode cX0_tell 35 = .ok (.iadd, 1) := by decide +kernel
theorem dX0_tell_36 : decode cX0_tell 36 = .ok (.putfield 25, 3) := by decide +kernel
theorem dX0_tell_39 : decode cX0_tell 39 = .ok (.return_, 1) := by decide +kernel
theorem dX0_become_0 : decode cX0_become 0 = .ok (.aload_n 0, 1) := by decide +kernel
theorem dX0_become_1 : decode cX0_become 1 = .ok (.aload_n 1, 1) := by decide +kernel
theorem dX0_become_2 : decode cX0_become 2 = .ok (.getfield 9, 3) := by decide +kernel
theorem dX0_become_5 : decode cX0_become 5 = .ok (.putfield 9, 3) := by decide +kernel
theorem dX0_become_8 : decode cX0_become 8 = .ok (.aload_n 0, 1) := by decide +kernel
theorem dX0_become_9 : decode cX0_become 9 = .ok (.aload_n 1, 1) := by decide +kernel
theorem dX0_become_10 : decode cX0_become 10 = .ok (.getfield 25, 3) := by decide +kernel
theorem dX0_become_13 : decode cX0_become 13 = .ok (.putfield 25, 3) := by decide +kernel
theorem dX0_become_16 : decode cX0_become 16 = .ok (.aload_n 1, 1) := by decide +kernel
theorem dX0_become_17 : decode cX0_become 17 = .ok (.getfield 15, 3) := by decide +kernel
theorem dX0_become_20 : decode cX0_become 20 = .ok (.iconst 0, 1) := by decide +kernel
theorem dX0_become_21 : decode cX0_become 21 = .ok (.aload_n 0, 1) := by decide +kernel
theorem dX0_become_22 : decode cX0_become 22 = .ok (.getfield 15, 3) := by decide +kernel
theorem dX0_become_25 : decode cX0_become 25 = .ok (.iconst 0, 1) := by decide +kernel
theorem dX0_become_26 : decode cX0_become 26 = .ok (.iload_n 2, 1) := by decide +kernel
theorem dX0_become_27 : decode cX0_become 27 = .ok (.invokestatic 28, 3) := by decide +kernel
theorem dX0_become_30 : decode cX0_become 30 = .ok (.aload_n 1, 1) := by decide +kernel
theorem dX0_become_31 : decode cX0_become 31 = .ok (.getfield 19, 3) := by decide +kernel
theorem dX0_become_34 : decode cX0_become 34 = .ok (.iconst 0, 1) := by decide +kernel
theorem dX0_become_35 : decode cX0_become 35 = .ok (.aload_n 0, 1) := by decide +kernel
theorem dX0_become_36 : decode cX0_become 36 = .ok (.getfield 19, 3) := by decide +kernel
theorem dX0_become_39 : decode cX0_become 39 = .ok (.iconst 0, 1) := by decide +kernel
theorem dX0_become_40 : decode cX0_become 40 = .ok (.aload_n 0, 1) := by decide +kernel
theorem dX0_become_41 : decode cX0_become 41 = .ok (.getfield 25, 3) := by decide +kernel
theorem dX0_become_44 : decode cX0_become 44 = .ok (.invokestatic 28, 3) := by decide +kernel
theorem dX0_become_47 : decode cX0_become 47 = .ok (.aload_n 1, 1) := by decide +kernel
theorem dX0_become_48 : decode cX0_become 48 = .ok (.getfield 22, 3) := by decide +kernel
theorem dX0_become_51 : decode cX0_become 51 = .ok (.iconst 0, 1) := by decide +kernel
theorem dX0_become_52 : decode cX0_become 52 = .ok (.aload_n 0, 1) := by decide +kernel
theorem dX0_become_53 : decode cX0_become 53 = .ok (.getfield 22, 3) := by decide +kernel
theorem dX0_become_56 : decode cX0_become 56 = .ok (.iconst 0, 1) := by decide +kernel
theorem dX0_become_57 : decode cX0_become 57 = .ok (.aload_n 0, 1) := by decide +kernel
theorem dX0_become_58 : decode cX0_become 58 = .ok (.getfield 25, 3) := by decide +kernel
theorem dX0_become_61 : decode cX0_become 61 = .ok (.invokestatic 28, 3) := by decide +kernel
theorem dX0_become_64 : decode cX0_become 64 = .ok (.return_, 1) := by decide +kernel
theorem dX1_init_0 : decode cX1_init 0 = .ok (.aload_n 0, 1) := by decide +kernel
theorem dX1_init_1 : decode cX1_init 1 = .ok (.iload_n 1, 1) := by decide +kernel
theorem dX1_init_2 : decode cX1_init 2 = .ok (.iload_n 2, 1) := by decide +kernel
theorem dX1_init_3 : decode cX1_init 3 = .ok (.invokespecial 1, 3) := by decide +kernel
theorem dX1_init_6 : decode cX1_init 6 = .ok (.return_, 1) := by decide +kernel
theorem dX1_kind_0 : decode cX1_kind 0 = .ok (.iconst 1, 1) := by decide +kernel
theorem dX1_kind_1 : decode cX1_kind 1 = .ok (.ireturn, 1) := by decide +kernel
theorem dX1_aheadOfPaying_0 : decode cX1_aheadOfPaying 0 = .ok (.iload_n 1, 1) := by decide +kernel
theorem dX1_aheadOfPaying_1 : decode cX1_aheadOfPaying 1 = .ok (.ireturn, 1) := by decide +kernel
theorem dX1_next_0 : decode cX1_next 0 = .ok (.iload_n 1, 1) := by decide +kernel
theorem dX1_next_1 : decode cX1_next 1 = .ok (.ifCond .lt 7, 3) := by decide +kernel
theorem dX1_next_4 : decode cX1_next 4 = .ok (.iload_n 1, 1) := by decide +kernel
theorem dX1_next_5 : decode cX1_next 5 = .ok (.goto 4, 3) := by decide +kernel
theorem dX1_next_8 : decode cX1_next 8 = .ok (.iload_n 2, 1) := by decide +kernel
theorem dX1_next_9 : decode cX1_next 9 = .ok (.ireturn, 1) := by decide +kernel
theorem dX1_takes_0 : decode cX1_takes 0 = .ok (.aload_n 0, 1) := by decide +kernel
theorem dX1_takes_1 : decode cX1_takes 1 = .ok (.bipush 20, 2) := by decide +kernel
theorem dX1_takes_3 : decode cX1_takes 3 = .ok (.invokevirtual 7, 3) := by decide +kernel
theorem dX1_takes_6 : decode cX1_takes 6 = .ok (.aload_n 0, 1) := by decide +kernel
theorem dX1_takes_7 : decode cX1_takes 7 = .ok (.iload_n 1, 1) := by decide +kernel
theorem dX1_takes_8 : decode cX1_takes 8 = .ok (.invokespecial 13, 3) := by decide +kernel
theorem dX1_takes_11 : decode cX1_takes 11 = .ok (.bipush 6, 2) := by decide +kernel
theorem dX1_takes_13 : decode cX1_takes 13 = .ok (.ixor, 1) := by decide +kernel
theorem dX1_takes_14 : decode cX1_takes 14 = .ok (.ireturn, 1) := by decide +kernel
theorem dX2_init_0 : decode cX2_init 0 = .ok (.aload_n 0, 1) := by decide +kernel
theorem dX2_init_1 : decode cX2_init 1 = .ok (.iload_n 1, 1) := by decide +kernel
theorem dX2_init_2 : decode cX2_init 2 = .ok (.iload_n 2, 1) := by decide +kernel
theorem dX2_init_3 : decode cX2_init 3 = .ok (.invokespecial 1, 3) := by decide +kernel
theorem dX2_init_6 : decode cX2_init 6 = .ok (.return_, 1) := by decide +kernel
theorem dX2_kind_0 : decode cX2_kind 0 = .ok (.iconst 5, 1) := by decide +kernel
theorem dX2_kind_1 : decode cX2_kind 1 = .ok (.ireturn, 1) := by decide +kernel
theorem dX2_turnsAway_0 : decode cX2_turnsAway 0 = .ok (.iload_n 1, 1) := by decide +kernel
theorem dX2_turnsAway_1 : decode cX2_turnsAway 1 = .ok (.aload_n 0, 1) := by decide +kernel
theorem dX2_turnsAway_2 : decode cX2_turnsAway 2 = .ok (.getfield 7, 3) := by decide +kernel
theorem dX2_turnsAway_5 : decode cX2_turnsAway 5 = .ok (.if_icmp .lt 7, 3) := by decide +kernel
theorem dX2_turnsAway_8 : decode cX2_turnsAway 8 = .ok (.iconst 1, 1) := by decide +kernel
theorem dX2_turnsAway_9 : decode cX2_turnsAway 9 = .ok (.goto 4, 3) := by decide +kernel
theorem dX2_turnsAway_12 : decode cX2_turnsAway 12 = .ok (.iconst 0, 1) := by decide +kernel
theorem dX2_turnsAway_13 : decode cX2_turnsAway 13 = .ok (.ireturn, 1) := by decide +kernel
theorem dX2_tells_0 : decode cX2_tells 0 = .ok (.aload_n 0, 1) := by decide +kernel
theorem dX2_tells_1 : decode cX2_tells 1 = .ok (.bipush 40, 2) := by decide +kernel
theorem dX2_tells_3 : decode cX2_tells 3 = .ok (.invokevirtual 13, 3) := by decide +kernel
theorem dX2_tells_6 : decode cX2_tells 6 = .ok (.aload_n 0, 1) := by decide +kernel
theorem dX2_tells_7 : decode cX2_tells 7 = .ok (.iload_n 1, 1) := by decide +kernel
theorem dX2_tells_8 : decode cX2_tells 8 = .ok (.invokespecial 17, 3) := by decide +kernel
theorem dX2_tells_11 : decode cX2_tells 11 = .ok (.aload_n 0, 1) := by decide +kernel
theorem dX2_tells_12 : decode cX2_tells 12 = .ok (.iconst 1, 1) := by decide +kernel
theorem dX2_tells_13 : decode cX2_tells 13 = .ok (.invokevirtual 21, 3) := by decide +kernel
theorem dX2_tells_16 : decode cX2_tells 16 = .ok (.iadd, 1) := by decide +kernel
theorem dX2_tells_17 : decode cX2_tells 17 = .ok (.ireturn, 1) := by decide +kernel
theorem dX3_init_0 : decode cX3_init 0 = .ok (.aload_n 0, 1) := by decide +kernel
theorem dX3_init_1 : decode cX3_init 1 = .ok (.invokespecial 3, 3) := by decide +kernel
theorem dX3_init_4 : decode cX3_init 4 = .ok (.aload_n 0, 1) := by decide +kernel
theorem dX3_init_5 : decode cX3_init 5 = .ok (.bipush 40, 2) := by decide +kernel
theorem dX3_init_7 : decode cX3_init 7 = .ok (.newarray .int, 2) := by decide +kernel
theorem dX3_init_9 : decode cX3_init 9 = .ok (.putfield 9, 3) := by decide +kernel
theorem dX3_init_12 : decode cX3_init 12 = .ok (.aload_n 0, 1) := by decide +kernel
theorem dX3_init_13 : decode cX3_init 13 = .ok (.bipush 40, 2) := by decide +kernel
theorem dX3_init_15 : decode cX3_init 15 = .ok (.newarray .int, 2) := by decide +kernel
theorem dX3_init_17 : decode cX3_init 17 = .ok (.putfield 15, 3) := by decide +kernel
theorem dX3_init_20 : decode cX3_init 20 = .ok (.aload_n 0, 1) := by decide +kernel
theorem dX3_init_21 : decode cX3_init 21 = .ok (.bipush 40, 2) := by decide +kernel
theorem dX3_init_23 : decode cX3_init 23 = .ok (.newarray .int, 2) := by decide +kernel
theorem dX3_init_25 : decode cX3_init 25 = .ok (.putfield 18, 3) := by decide +kernel
theorem dX3_init_28 : decode cX3_init 28 = .ok (.aload_n 0, 1) := by decide +kernel
theorem dX3_init_29 : decode cX3_init 29 = .ok (.bipush 40, 2) := by decide +kernel
theorem dX3_init_31 : decode cX3_init 31 = .ok (.newarray .int, 2) := by decide +kernel
theorem dX3_init_33 : decode cX3_init 33 = .ok (.putfield 21, 3) := by decide +kernel
theorem dX3_init_36 : decode cX3_init 36 = .ok (.aload_n 0, 1) := by decide +kernel
theorem dX3_init_37 : decode cX3_init 37 = .ok (.bipush 40, 2) := by decide +kernel
theorem dX3_init_39 : decode cX3_init 39 = .ok (.newarray .int, 2) := by decide +kernel
theorem dX3_init_41 : decode cX3_init 41 = .ok (.putfield 24, 3) := by decide +kernel
theorem dX3_init_44 : decode cX3_init 44 = .ok (.aload_n 0, 1) := by decide +kernel
theorem dX3_init_45 : decode cX3_init 45 = .ok (.bipush 40, 2) := by decide +kernel
theorem dX3_init_47 : decode cX3_init 47 = .ok (.newarray .int, 2) := by decide +kernel
theorem dX3_init_49 : decode cX3_init 49 = .ok (.putfield 27, 3) := by decide +kernel
theorem dX3_init_52 : decode cX3_init 52 = .ok (.aload_n 0, 1) := by decide +kernel
theorem dX3_init_53 : decode cX3_init 53 = .ok (.iconst 2, 1) := by decide +kernel
theorem dX3_init_54 : decode cX3_init 54 = .ok (.newarray .int, 2) := by decide +kernel
theorem dX3_init_56 : decode cX3_init 56 = .ok (.putfield 30, 3) := by decide +kernel
theorem dX3_init_59 : decode cX3_init 59 = .ok (.aload_n 0, 1) := by decide +kernel
theorem dX3_init_60 : decode cX3_init 60 = .ok (.iconst 2, 1) := by decide +kernel
theorem dX3_init_61 : decode cX3_init 61 = .ok (.newarray .int, 2) := by decide +kernel
theorem dX3_init_63 : decode cX3_init 63 = .ok (.putfield 33, 3) := by decide +kernel
theorem dX3_init_66 : decode cX3_init 66 = .ok (.aload_n 0, 1) := by decide +kernel
theorem dX3_init_67 : decode cX3_init 67 = .ok (.aload_n 1, 1) := by decide +kernel
theorem dX3_init_68 : decode cX3_init 68 = .ok (.putfield 36, 3) := by decide +kernel
theorem dX3_init_71 : decode cX3_init 71 = .ok (.return_, 1) := by decide +kernel
theorem dX3_pass_0 : decode cX3_pass 0 = .ok (.aload_n 0, 1) := by decide +kernel
theorem dX3_pass_1 : decode cX3_pass 1 = .ok (.aload_n 1, 1) := by decide +kernel
theorem dX3_pass_2 : decode cX3_pass 2 = .ok (.aload_n 2, 1) := by decide +kernel
theorem dX3_pass_3 : decode cX3_pass 3 = .ok (.iload_n 3, 1) := by decide +kernel
theorem dX3_pass_4 : decode cX3_pass 4 = .ok (.iload 4, 2) := by decide +kernel
theorem dX3_pass_6 : decode cX3_pass 6 = .ok (.invokevirtual 40, 3) := by decide +kernel
theorem dX3_pass_9 : decode cX3_pass 9 = .ok (.aload_n 0, 1) := by decide +kernel
theorem dX3_pass_10 : decode cX3_pass 10 = .ok (.iconst 0, 1) := by decide +kernel
theorem dX3_pass_11 : decode cX3_pass 11 = .ok (.putfield 44, 3) := by decide +kernel
theorem dX3_pass_14 : decode cX3_pass 14 = .ok (.aload_n 0, 1) := by decide +kernel
theorem dX3_pass_15 : decode cX3_pass 15 = .ok (.getfield 44, 3) := by decide +kernel
theorem dX3_pass_18 : decode cX3_pass 18 = .ok (.bipush 60, 2) := by decide +kernel
theorem dX3_pass_20 : decode cX3_pass 20 = .ok (.if_icmp .ge 32, 3) := by decide +kernel
theorem dX3_pass_23 : decode cX3_pass 23 = .ok (.aload_n 0, 1) := by decide +kernel
theorem dX3_pass_24 : decode cX3_pass 24 = .ok (.aload 5, 2) := by decide +kernel
theorem dX3_pass_26 : decode cX3_pass 26 = .ok (.invokevirtual 48, 3) := by decide +kernel
theorem dX3_pass_29 : decode cX3_pass 29 = .ok (.aload_n 0, 1) := by decide +kernel
theorem dX3_pass_30 : decode cX3_pass 30 = .ok (.iload 6, 2) := by decide +kernel
theorem dX3_pass_32 : decode cX3_pass 32 = .ok (.invokevirtual 52, 3) := by decide +kernel
theorem dX3_pass_35 : decode cX3_pass 35 = .ok (.aload_n 0, 1) := by decide +kernel
theorem dX3_pass_36 : decode cX3_pass 36 = .ok (.invokevirtual 56, 3) := by decide +kernel
theorem dX3_pass_39 : decode cX3_pass 39 = .ok (.aload_n 0, 1) := by decide +kernel
theorem dX3_pass_40 : decode cX3_pass 40 = .ok (.dup, 1) := by decide +kernel
theorem dX3_pass_41 : decode cX3_pass 41 = .ok (.getfield 44, 3) := by decide +kernel
theorem dX3_pass_44 : decode cX3_pass 44 = .ok (.iconst 1, 1) := by decide +kernel
theorem dX3_pass_45 : decode cX3_pass 45 = .ok (.iadd, 1) := by decide +kernel
theorem dX3_pass_46 : decode cX3_pass 46 = .ok (.putfield 44, 3) := by decide +kernel
theorem dX3_pass_49 : decode cX3_pass 49 = .ok (.goto (-35), 3) := by decide +kernel
theorem dX3_pass_52 : decode cX3_pass 52 = .ok (.aload_n 0, 1) := by decide +kernel
theorem dX3_pass_53 : decode cX3_pass 53 = .ok (.getfield 30, 3) := by decide +kernel
theorem dX3_pass_56 : decode cX3_pass 56 = .ok (.iconst 0, 1) := by decide +kernel
theorem dX3_pass_57 : decode cX3_pass 57 = .ok (.iaload, 1) := by decide +kernel
theorem dX3_pass_58 : decode cX3_pass 58 = .ok (.aload_n 0, 1) := by decide +kernel
theorem dX3_pass_59 : decode cX3_pass 59 = .ok (.getfield 30, 3) := by decide +kernel
theorem dX3_pass_62 : decode cX3_pass 62 = .ok (.iconst 1, 1) := by decide +kernel
theorem dX3_pass_63 : decode cX3_pass 63 = .ok (.iaload, 1) := by decide +kernel
theorem dX3_pass_64 : decode cX3_pass 64 = .ok (.iadd, 1) := by decide +kernel
theorem dX3_pass_65 : decode cX3_pass 65 = .ok (.istore 7, 2) := by decide +kernel
theorem dX3_pass_67 : decode cX3_pass 67 = .ok (.iload 7, 2) := by decide +kernel
theorem dX3_pass_69 : decode cX3_pass 69 = .ok (.ifCond .le 28, 3) := by decide +kernel
theorem dX3_pass_72 : decode cX3_pass 72 = .ok (.aload_n 0, 1) := by decide +kernel
theorem dX3_pass_73 : decode cX3_pass 73 = .ok (.aload_n 0, 1) := by decide +kernel
theorem dX3_pass_74 : decode cX3_pass 74 = .ok (.getfield 44, 3) := by decide +kernel
theorem dX3_pass_77 : decode cX3_pass 77 = .ok (.aload_n 0, 1) := by decide +kernel
theorem dX3_pass_78 : decode cX3_pass 78 = .ok (.getfield 59, 3) := by decide +kernel
theorem dX3_pass_81 : decode cX3_pass 81 = .ok (.invokestatic 62, 3) := by decide +kernel
theorem dX3_pass_84 : decode cX3_pass 84 = .ok (.putfield 44, 3) := by decide +kernel
theorem dX3_pass_87 : decode cX3_pass 87 = .ok (.aload_n 0, 1) := by decide +kernel
theorem dX3_pass_88 : decode cX3_pass 88 = .ok (.invokevirtual 56, 3) := by decide +kernel
theorem dX3_pass_91 : decode cX3_pass 91 = .ok (.iinc 7 (-1), 3) := by decide +kernel
theorem dX3_pass_94 : decode cX3_pass 94 = .ok (.goto (-27), 3) := by decide +kernel
theorem dX3_pass_97 : decode cX3_pass 97 = .ok (.return_, 1) := by decide +kernel
theorem dX3_begin_0 : decode cX3_begin 0 = .ok (.aload_n 0, 1) := by decide +kernel
theorem dX3_begin_1 : decode cX3_begin 1 = .ok (.aload_n 1, 1) := by decide +kernel
theorem dX3_begin_2 : decode cX3_begin 2 = .ok (.putfield 68, 3) := by decide +kernel
theorem dX3_begin_5 : decode cX3_begin 5 = .ok (.aload_n 0, 1) := by decide +kernel
theorem dX3_begin_6 : decode cX3_begin 6 = .ok (.aload_n 2, 1) := by decide +kernel
theorem dX3_begin_7 : decode cX3_begin 7 = .ok (.putfield 72, 3) := by decide +kernel
theorem dX3_begin_10 : decode cX3_begin 10 = .ok (.aload_n 0, 1) := by decide +kernel
theorem dX3_begin_11 : decode cX3_begin 11 = .ok (.iload_n 3, 1) := by decide +kernel
theorem dX3_begin_12 : decode cX3_begin 12 = .ok (.putfield 76, 3) := by decide +kernel
theorem dX3_begin_15 : decode cX3_begin 15 = .ok (.aload_n 0, 1) := by decide +kernel
theorem dX3_begin_16 : decode cX3_begin 16 = .ok (.iload 4, 2) := by decide +kernel
theorem dX3_begin_18 : decode cX3_begin 18 = .ok (.putfield 79, 3) := by decide +kernel
theorem dX3_begin_21 : decode cX3_begin 21 = .ok (.aload_n 0, 1) := by decide +kernel
theorem dX3_begin_22 : decode cX3_begin 22 = .ok (.iconst 0, 1) := by decide +kernel
theorem dX3_begin_23 : decode cX3_begin 23 = .ok (.putfield 82, 3) := by decide +kernel
theorem dX3_begin_26 : decode cX3_begin 26 = .ok (.aload_n 0, 1) := by decide +kernel
theorem dX3_begin_27 : decode cX3_begin 27 = .ok (.iconst 0, 1) := by decide +kernel
theorem dX3_begin_28 : decode cX3_begin 28 = .ok (.putfield 85, 3) := by decide +kernel
theorem dX3_begin_31 : decode cX3_begin 31 = .ok (.aload_n 0, 1) := by decide +kernel
theorem dX3_begin_32 : decode cX3_begin 32 = .ok (.iconst (-1), 1) := by decide +kernel
theorem dX3_begin_33 : decode cX3_begin 33 = .ok (.putfield 88, 3) := by decide +kernel
theorem dX3_begin_36 : decode cX3_begin 36 = .ok (.aload_n 0, 1) := by decide +kernel
theorem dX3_begin_37 : decode cX3_begin 37 = .ok (.iconst 0, 1) := by decide +kernel
theorem dX3_begin_38 : decode cX3_begin 38 = .ok (.putfield 59, 3) := by decide +kernel
theorem dX3_begin_41 : decode cX3_begin 41 = .ok (.aload_n 0, 1) := by decide +kernel
theorem dX3_begin_42 : decode cX3_begin 42 = .ok (.iconst 0, 1) := by decide +kernel
theorem dX3_begin_43 : decode cX3_begin 43 = .ok (.putfield 91, 3) := by decide +kernel
theorem dX3_begin_46 : decode cX3_begin 46 = .ok (.aload_n 0, 1) := by decide +kernel
theorem dX3_begin_47 : decode cX3_begin 47 = .ok (.getfield 30, 3) := by decide +kernel
theorem dX3_begin_50 : decode cX3_begin 50 = .ok (.iconst 0, 1) := by decide +kernel
theorem dX3_begin_51 : decode cX3_begin 51 = .ok (.invokestatic 94, 3) := by decide +kernel
theorem dX3_begin_54 : decode cX3_begin 54 = .ok (.aload_n 0, 1) := by decide +kernel
theorem dX3_begin_55 : decode cX3_begin 55 = .ok (.getfield 33, 3) := by decide +kernel
theorem dX3_begin_58 : decode cX3_begin 58 = .ok (.iconst 0, 1) := by decide +kernel
theorem dX3_begin_59 : decode cX3_begin 59 = .ok (.invokestatic 94, 3) := by decide +kernel
theorem dX3_begin_62 : decode cX3_begin 62 = .ok (.return_, 1) := by decide +kernel
theorem dX3_comeByHand_0 : decode cX3_comeByHand 0 = .ok (.iconst 0, 1) := by decide +kernel
theorem dX3_comeByHand_1 : decode cX3_comeByHand 1 = .ok (.istore_n 2, 1) := by decide +kernel
theorem dX3_comeByHand_2 : decode cX3_comeByHand 2 = .ok (.iload_n 2, 1) := by decide +kernel
theorem dX3_comeByHand_3 : decode cX3_comeByHand 3 = .ok (.aload_n 1, 1) := by decide +kernel
theorem dX3_comeByHand_4 : decode cX3_comeByHand 4 = .ok (.getfield 100, 3) := by decide +kernel
theorem dX3_comeByHand_7 : decode cX3_comeByHand 7 = .ok (.if_icmp .ge 57, 3) := by decide +kernel
theorem dX3_comeByHand_10 : decode cX3_comeByHand 10 = .ok (.aload_n 1, 1) := by decide +kernel
theorem dX3_comeByHand_11 : decode cX3_comeByHand 11 = .ok (.getfield 105, 3) := by decide +kernel
theorem dX3_comeByHand_14 : decode cX3_comeByHand 14 = .ok (.iload_n 2, 1) := by decide +kernel
theorem dX3_comeByHand_15 : decode cX3_comeByHand 15 = .ok (.iaload, 1) := by decide +kernel
theorem dX3_comeByHand_16 : decode cX3_comeByHand 16 = .ok (.aload_n 0, 1) := by decide +kernel
theorem dX3_comeByHand_17 : decode cX3_comeByHand 17 = .ok (.getfield 44, 3) := by decide +kernel
theorem dX3_comeByHand_20 : decode cX3_comeByHand 20 = .ok (.if_icmp .ne 38, 3) := by decide +kernel
theorem dX3_comeByHand_23 : decode cX3_comeByHand 23 = .ok (.aload_n 0, 1) := by decide +kernel
theorem dX3_comeByHand_24 : decode cX3_comeByHand 24 = .ok (.invokevirtual 108, 3) := by decide +kernel
theorem dX3_comeByHand_27 : decode cX3_comeByHand 27 = .ok (.ifCond .eq 31, 3) := by decide +kernel
theorem dX3_comeByHand_30 : decode cX3_comeByHand 30 = .ok (.iload_n 2, 1) := by decide +kernel
theorem dX3_comeByHand_31 : decode cX3_comeByHand 31 = .ok (.aload_n 1, 1) := by decide +kernel
theorem dX3_comeByHand_32 : decode cX3_comeByHand 32 = .ok (.getfield 100, 3) := by decide +kernel
theorem dX3_comeByHand_35 : decode cX3_comeByHand 35 = .ok (.iconst 1, 1) := by decide +kernel
theorem dX3_comeByHand_36 : decode cX3_comeByHand 36 = .ok (.isub, 1) := by decide +kernel
theorem dX3_comeByHand_37 : decode cX3_comeByHand 37 = .ok (.if_icmp .ne 11, 3) := by decide +kernel
theorem dX3_comeByHand_40 : decode cX3_comeByHand 40 = .ok (.aload_n 0, 1) := by decide +kernel
theorem dX3_comeByHand_41 : decode cX3_comeByHand 41 = .ok (.aload_n 0, 1) := by decide +kernel
theorem dX3_comeByHand_42 : decode cX3_comeByHand 42 = .ok (.getfield 82, 3) := by decide +kernel
theorem dX3_comeByHand_45 : decode cX3_comeByHand 45 = .ok (.putfield 88, 3) := by decide +kernel
theorem dX3_comeByHand_48 : decode cX3_comeByHand 48 = .ok (.aload_n 0, 1) := by decide +kernel
theorem dX3_comeByHand_49 : decode cX3_comeByHand 49 = .ok (.aload_n 1, 1) := by decide +kernel
theorem dX3_comeByHand_50 : decode cX3_comeByHand 50 = .ok (.getfield 112, 3) := by decide +kernel
theorem dX3_comeByHand_53 : decode cX3_comeByHand 53 = .ok (.iload_n 2, 1) := by decide +kernel
theorem dX3_comeByHand_54 : decode cX3_comeByHand 54 = .ok (.iaload, 1) := by decide +kernel
theorem dX3_comeByHand_55 : decode cX3_comeByHand 55 = .ok (.invokevirtual 114, 3) := by decide +kernel
theorem dX3_comeByHand_58 : decode cX3_comeByHand 58 = .ok (.iinc 2 1, 3) := by decide +kernel
theorem dX3_comeByHand_61 : decode cX3_comeByHand 61 = .ok (.goto (-59), 3) := by decide +kernel
theorem dX3_comeByHand_64 : decode cX3_comeByHand 64 = .ok (.return_, 1) := by decide +kernel
theorem dX3_comeByText_0 : decode cX3_comeByText 0 = .ok (.iconst 0, 1) := by decide +kernel
theorem dX3_comeByText_1 : decode cX3_comeByText 1 = .ok (.istore_n 2, 1) := by decide +kernel
theorem dX3_comeByText_2 : decode cX3_comeByText 2 = .ok (.iload_n 2, 1) := by decide +kernel
theorem dX3_comeByText_3 : decode cX3_comeByText 3 = .ok (.iload_n 1, 1) := by decide +kernel
theorem dX3_comeByText_4 : decode cX3_comeByText 4 = .ok (.if_icmp .ge 52, 3) := by decide +kernel
theorem dX3_comeByText_7 : decode cX3_comeByText 7 = .ok (.aload_n 0, 1) := by decide +kernel
theorem dX3_comeByText_8 : decode cX3_comeByText 8 = .ok (.invokevirtual 108, 3) := by decide +kernel
theorem dX3_comeByText_11 : decode cX3_comeByText 11 = .ok (.ifCond .eq 39, 3) := by decide +kernel
theorem dX3_comeByText_14 : decode cX3_comeByText 14 = .ok (.aload_n 0, 1) := by decide +kernel
theorem dX3_comeByText_15 : decode cX3_comeByText 15 = .ok (.getfield 72, 3) := by decide +kernel
theorem dX3_comeByText_18 : decode cX3_comeByText 18 = .ok (.iload_n 2, 1) := by decide +kernel
theorem dX3_comeByText_19 : decode cX3_comeByText 19 = .ok (.aload_n 0, 1) := by decide +kernel
theorem dX3_comeByText_20 : decode cX3_comeByText 20 = .ok (.getfield 44, 3) := by decide +kernel
theorem dX3_comeByText_23 : decode cX3_comeByText 23 = .ok (.aload_n 0, 1) := by decide +kernel
theorem dX3_comeByText_24 : decode cX3_comeByText 24 = .ok (.getfield 30, 3) := by decide +kernel
theorem dX3_comeByText_27 : decode cX3_comeByText 27 = .ok (.iconst 1, 1) := by decide +kernel
theorem dX3_comeByText_28 : decode cX3_comeByText 28 = .ok (.iaload, 1) := by decide +kernel
theorem dX3_comeByText_29 : decode cX3_comeByText 29 = .ok (.aload_n 0, 1) := by decide +kernel
theorem dX3_comeByText_30 : decode cX3_comeByText 30 = .ok (.getfield 30, 3) := by decide +kernel
theorem dX3_comeByText_33 : decode cX3_comeByText 33 = .ok (.iconst 0, 1) := by decide +kernel
theorem dX3_comeByText_34 : decode cX3_comeByText 34 = .ok (.iaload, 1) := by decide +kernel
theorem dX3_comeByText_35 : decode cX3_comeByText 35 = .ok (.aload_n 0, 1) := by decide +kernel
theorem dX3_comeByText_36 : decode cX3_comeByText 36 = .ok (.getfield 82, 3) := by decide +kernel
theorem dX3_comeByText_39 : decode cX3_comeByText 39 = .ok (.invokevirtual 117, 3) := by decide +kernel
theorem dX3_comeByText_42 : decode cX3_comeByText 42 = .ok (.ifCond .eq 8, 3) := by decide +kernel
theorem dX3_comeByText_45 : decode cX3_comeByText 45 = .ok (.aload_n 0, 1) := by decide +kernel
theorem dX3_comeByText_46 : decode cX3_comeByText 46 = .ok (.iload_n 2, 1) := by decide +kernel
theorem dX3_comeByText_47 : decode cX3_comeByText 47 = .ok (.invokevirtual 114, 3) := by decide +kernel
theorem dX3_comeByText_50 : decode cX3_comeByText 50 = .ok (.iinc 2 1, 3) := by decide +kernel
theorem dX3_comeByText_53 : decode cX3_comeByText 53 = .ok (.goto (-51), 3) := by decide +kernel
theorem dX3_comeByText_56 : decode cX3_comeByText 56 = .ok (.return_, 1) := by decide +kernel
theorem dX3_roomForMore_0 : decode cX3_roomForMore 0 = .ok (.aload_n 0, 1) := by decide +kernel
theorem dX3_roomForMore_1 : decode cX3_roomForMore 1 = .ok (.getfield 82, 3) := by decide +kernel
theorem dX3_roomForMore_4 : decode cX3_roomForMore 4 = .ok (.aload_n 0, 1) := by decide +kernel
theorem dX3_roomForMore_5 : decode cX3_roomForMore 5 = .ok (.getfield 72, 3) := by decide +kernel
theorem dX3_roomForMore_8 : decode cX3_roomForMore 8 = .ok (.getfield 123, 3) := by decide +kernel
theorem dX3_roomForMore_11 : decode cX3_roomForMore 11 = .ok (.if_icmp .ge 16, 3) := by decide +kernel
theorem dX3_roomForMore_14 : decode cX3_roomForMore 14 = .ok (.aload_n 0, 1) := by decide +kernel
theorem dX3_roomForMore_15 : decode cX3_roomForMore 15 = .ok (.getfield 82, 3) := by decide +kernel
theorem dX3_roomForMore_18 : decode cX3_roomForMore 18 = .ok (.bipush 40, 2) := by decide +kernel
theorem dX3_roomForMore_20 : decode cX3_roomForMore 20 = .ok (.if_icmp .ge 7, 3) := by decide +kernel
theorem dX3_roomForMore_23 : decode cX3_roomForMore 23 = .ok (.iconst 1, 1) := by decide +kernel
theorem dX3_roomForMore_24 : decode cX3_roomForMore 24 = .ok (.goto 4, 3) := by decide +kernel
theorem dX3_roomForMore_27 : decode cX3_roomForMore 27 = .ok (.iconst 0, 1) := by decide +kernel
theorem dX3_roomForMore_28 : decode cX3_roomForMore 28 = .ok (.ireturn, 1) := by decide +kernel
theorem dX3_enter_0 : decode cX3_enter 0 = .ok (.aload_n 0, 1) := by decide +kernel
theorem dX3_enter_1 : decode cX3_enter 1 = .ok (.getfield 68, 3) := by decide +kernel
theorem dX3_enter_4 : decode cX3_enter 4 = .ok (.aload_n 0, 1) := by decide +kernel
theorem dX3_enter_5 : decode cX3_enter 5 = .ok (.getfield 68, 3) := by decide +kernel
theorem dX3_enter_8 : decode cX3_enter 8 = .ok (.aload_n 0, 1) := by decide +kernel
theorem dX3_enter_9 : decode cX3_enter 9 = .ok (.getfield 76, 3) := by decide +kernel
theorem dX3_enter_12 : decode cX3_enter 12 = .ok (.aload_n 0, 1) := by decide +kernel
theorem dX3_enter_13 : decode cX3_enter 13 = .ok (.getfield 30, 3) := by decide +kernel
theorem dX3_enter_16 : decode cX3_enter 16 = .ok (.iconst 1, 1) := by decide +kernel
theorem dX3_enter_17 : decode cX3_enter 17 = .ok (.iaload, 1) := by decide +kernel
theorem dX3_enter_18 : decode cX3_enter 18 = .ok (.invokevirtual 126, 3) := by decide +kernel
theorem dX3_enter_21 : decode cX3_enter 21 = .ok (.aload_n 0, 1) := by decide +kernel
theorem dX3_enter_22 : decode cX3_enter 22 = .ok (.getfield 36, 3) := by decide +kernel
theorem dX3_enter_25 : decode cX3_enter 25 = .ok (.iload_n 1, 1) := by decide +kernel
theorem dX3_enter_26 : decode cX3_enter 26 = .ok (.aaload, 1) := by decide +kernel
theorem dX3_enter_27 : decode cX3_enter 27 = .ok (.iconst 2, 1) := by decide +kernel
theorem dX3_enter_28 : decode cX3_enter 28 = .ok (.iaload, 1) := by decide +kernel
theorem dX3_enter_29 : decode cX3_enter 29 = .ok (.invokevirtual 131, 3) := by decide +kernel
theorem dX3_enter_32 : decode cX3_enter 32 = .ok (.istore_n 2, 1) := by decide +kernel
theorem dX3_enter_33 : decode cX3_enter 33 = .ok (.aload_n 0, 1) := by decide +kernel
theorem dX3_enter_34 : decode cX3_enter 34 = .ok (.iload_n 1, 1) := by decide +kernel
theorem dX3_enter_35 : decode cX3_enter 35 = .ok (.iload_n 2, 1) := by decide +kernel
theorem dX3_enter_36 : decode cX3_enter 36 = .ok (.invokevirtual 134, 3) := by decide +kernel
theorem dX3_enter_39 : decode cX3_enter 39 = .ok (.istore_n 3, 1) := by decide +kernel
theorem dX3_enter_40 : decode cX3_enter 40 = .ok (.aload_n 0, 1) := by decide +kernel
theorem dX3_enter_41 : decode cX3_enter 41 = .ok (.getfield 9, 3) := by decide +kernel
theorem dX3_enter_44 : decode cX3_enter 44 = .ok (.aload_n 0, 1) := by decide +kernel
theorem dX3_enter_45 : decode cX3_enter 45 = .ok (.getfield 82, 3) := by decide +kernel
theorem dX3_enter_48 : decode cX3_enter 48 = .ok (.iload_n 1, 1) := by decide +kernel
theorem dX3_enter_49 : decode cX3_enter 49 = .ok (.iastore, 1) := by decide +kernel
theorem dX3_enter_50 : decode cX3_enter 50 = .ok (.aload_n 0, 1) := by decide +kernel
theorem dX3_enter_51 : decode cX3_enter 51 = .ok (.getfield 15, 3) := by decide +kernel
theorem dX3_enter_54 : decode cX3_enter 54 = .ok (.aload_n 0, 1) := by decide +kernel
theorem dX3_enter_55 : decode cX3_enter 55 = .ok (.getfield 82, 3) := by decide +kernel
theorem dX3_enter_58 : decode cX3_enter 58 = .ok (.aload_n 0, 1) := by decide +kernel
theorem dX3_enter_59 : decode cX3_enter 59 = .ok (.getfield 44, 3) := by decide +kernel
theorem dX3_enter_62 : decode cX3_enter 62 = .ok (.iastore, 1) := by decide +kernel
theorem dX3_enter_63 : decode cX3_enter 63 = .ok (.aload_n 0, 1) := by decide +kernel
theorem dX3_enter_64 : decode cX3_enter 64 = .ok (.getfield 18, 3) := by decide +kernel
theorem dX3_enter_67 : decode cX3_enter 67 = .ok (.aload_n 0, 1) := by decide +kernel
theorem dX3_enter_68 : decode cX3_enter 68 = .ok (.getfield 82, 3) := by decide +kernel
theorem dX3_enter_71 : decode cX3_enter 71 = .ok (.iload_n 3, 1) := by decide +kernel
theorem dX3_enter_72 : decode cX3_enter 72 = .ok (.iastore, 1) := by decide +kernel
theorem dX3_enter_73 : decode cX3_enter 73 = .ok (.aload_n 0, 1) := by decide +kernel
theorem dX3_enter_74 : decode cX3_enter 74 = .ok (.getfield 21, 3) := by decide +kernel
theorem dX3_enter_77 : decode cX3_enter 77 = .ok (.aload_n 0, 1) := by decide +kernel
theorem dX3_enter_78 : decode cX3_enter 78 = .ok (.getfield 82, 3) := by decide +kernel
theorem dX3_enter_81 : decode cX3_enter 81 = .ok (.iload_n 3, 1) := by decide +kernel
theorem dX3_enter_82 : decode cX3_enter 82 = .ok (.iconst 1, 1) := by decide +kernel
theorem dX3_enter_83 : decode cX3_enter 83 = .ok (.if_icmp .ne 7, 3) := by decide +kernel
theorem dX3_enter_86 : decode cX3_enter 86 = .ok (.iload_n 2, 1) := by decide +kernel
theorem dX3_enter_87 : decode cX3_enter 87 = .ok (.goto 4, 3) := by decide +kernel
theorem dX3_enter_90 : decode cX3_enter 90 = .ok (.iconst 0, 1) := by decide +kernel
theorem dX3_enter_91 : decode cX3_enter 91 = .ok (.iastore, 1) := by decide +kernel
theorem dX3_enter_92 : decode cX3_enter 92 = .ok (.aload_n 0, 1) := by decide +kernel
theorem dX3_enter_93 : decode cX3_enter 93 = .ok (.getfield 24, 3) := by decide +kernel
theorem dX3_enter_96 : decode cX3_enter 96 = .ok (.aload_n 0, 1) := by decide +kernel
theorem dX3_enter_97 : decode cX3_enter 97 = .ok (.getfield 82, 3) := by decide +kernel
theorem dX3_enter_100 : decode cX3_enter 100 = .ok (.iconst (-1), 1) := by decide +kernel
theorem dX3_enter_101 : decode cX3_enter 101 = .ok (.iastore, 1) := by decide +kernel
theorem dX3_enter_102 : decode cX3_enter 102 = .ok (.aload_n 0, 1) := by decide +kernel
theorem dX3_enter_103 : decode cX3_enter 103 = .ok (.dup, 1) := by decide +kernel
theorem dX3_enter_104 : decode cX3_enter 104 = .ok (.getfield 82, 3) := by decide +kernel
theorem dX3_enter_107 : decode cX3_enter 107 = .ok (.iconst 1, 1) := by decide +kernel
theorem dX3_enter_108 : decode cX3_enter 108 = .ok (.iadd, 1) := by decide +kernel
theorem dX3_enter_109 : decode cX3_enter 109 = .ok (.putfield 82, 3) := by decide +kernel
theorem dX3_enter_112 : decode cX3_enter 112 = .ok (.iload_n 3, 1) := by decide +kernel
theorem dX3_enter_113 : decode cX3_enter 113 = .ok (.iconst 2, 1) := by decide +kernel
theorem dX3_enter_114 : decode cX3_enter 114 = .ok (.if_icmp .eq 27, 3) := by decide +kernel
theorem dX3_enter_117 : decode cX3_enter 117 = .ok (.aload_n 0, 1) := by decide +kernel
theorem dX3_enter_118 : decode cX3_enter 118 = .ok (.getfield 30, 3) := by decide +kernel
theorem dX3_enter_121 : decode cX3_enter 121 = .ok (.iload_n 3, 1) := by decide +kernel
theorem dX3_enter_122 : decode cX3_enter 122 = .ok (.dup2, 1) := by decide +kernel
theorem dX3_enter_123 : decode cX3_enter 123 = .ok (.iaload, 1) := by decide +kernel
theorem dX3_enter_124 : decode cX3_enter 124 = .ok (.iconst 1, 1) := by decide +kernel
theorem dX3_enter_125 : decode cX3_enter 125 = .ok (.iadd, 1) := by decide +kernel
theorem dX3_enter_126 : decode cX3_enter 126 = .ok (.iastore, 1) := by decide +kernel
theorem dX3_enter_127 : decode cX3_enter 127 = .ok (.aload_n 0, 1) := by decide +kernel
theorem dX3_enter_128 : decode cX3_enter 128 = .ok (.getfield 33, 3) := by decide +kernel
theorem dX3_enter_131 : decode cX3_enter 131 = .ok (.iload_n 3, 1) := by decide +kernel
theorem dX3_enter_132 : decode cX3_enter 132 = .ok (.dup2, 1) := by decide +kernel
theorem dX3_enter_133 : decode cX3_enter 133 = .ok (.iaload, 1) := by decide +kernel
theorem dX3_enter_134 : decode cX3_enter 134 = .ok (.aload_n 0, 1) := by decide +kernel
theorem dX3_enter_135 : decode cX3_enter 135 = .ok (.iload_n 1, 1) := by decide +kernel
theorem dX3_enter_136 : decode cX3_enter 136 = .ok (.invokevirtual 137, 3) := by decide +kernel
theorem dX3_enter_139 : decode cX3_enter 139 = .ok (.iadd, 1) := by decide +kernel
theorem dX3_enter_140 : decode cX3_enter 140 = .ok (.iastore, 1) := by decide +kernel
theorem dX3_enter_141 : decode cX3_enter 141 = .ok (.return_, 1) := by decide +kernel
theorem dX3_lineFor_0 : decode cX3_lineFor 0 = .ok (.iload_n 2, 1) := by decide +kernel
theorem dX3_lineFor_1 : decode cX3_lineFor 1 = .ok (.aload_n 0, 1) := by decide +kernel
theorem dX3_lineFor_2 : decode cX3_lineFor 2 = .ok (.getfield 36, 3) := by decide +kernel
theorem dX3_lineFor_5 : decode cX3_lineFor 5 = .ok (.iload_n 1, 1) := by decide +kernel
theorem dX3_lineFor_6 : decode cX3_lineFor 6 = .ok (.aaload, 1) := by decide +kernel
theorem dX3_lineFor_7 : decode cX3_lineFor 7 = .ok (.iconst 2, 1) := by decide +kernel
theorem dX3_lineFor_8 : decode cX3_lineFor 8 = .ok (.iaload, 1) := by decide +kernel
theorem dX3_lineFor_9 : decode cX3_lineFor 9 = .ok (.if_icmp .gt 7, 3) := by decide +kernel
theorem dX3_lineFor_12 : decode cX3_lineFor 12 = .ok (.iconst 1, 1) := by decide +kernel
theorem dX3_lineFor_13 : decode cX3_lineFor 13 = .ok (.goto 4, 3) := by decide +kernel
theorem dX3_lineFor_16 : decode cX3_lineFor 16 = .ok (.iconst 0, 1) := by decide +kernel
theorem dX3_lineFor_17 : decode cX3_lineFor 17 = .ok (.istore_n 3, 1) := by decide +kernel
theorem dX3_lineFor_18 : decode cX3_lineFor 18 = .ok (.aload_n 0, 1) := by decide +kernel
theorem dX3_lineFor_19 : decode cX3_lineFor 19 = .ok (.getfield 68, 3) := by decide +kernel
theorem dX3_lineFor_22 : decode cX3_lineFor 22 = .ok (.aload_n 0, 1) := by decide +kernel
theorem dX3_lineFor_23 : decode cX3_lineFor 23 = .ok (.getfield 82, 3) := by decide +kernel
theorem dX3_lineFor_26 : decode cX3_lineFor 26 = .ok (.invokevirtual 141, 3) := by decide +kernel
theorem dX3_lineFor_29 : decode cX3_lineFor 29 = .ok (.istore 4, 2) := by decide +kernel
theorem dX3_lineFor_31 : decode cX3_lineFor 31 = .ok (.iload 4, 2) := by decide +kernel
theorem dX3_lineFor_33 : decode cX3_lineFor 33 = .ok (.ifCond .lt 16, 3) := by decide +kernel
theorem dX3_lineFor_36 : decode cX3_lineFor 36 = .ok (.iload 4, 2) := by decide +kernel
theorem dX3_lineFor_38 : decode cX3_lineFor 38 = .ok (.iconst 1, 1) := by decide +kernel
theorem dX3_lineFor_39 : decode cX3_lineFor 39 = .ok (.if_icmp .ne 7, 3) := by decide +kernel
theorem dX3_lineFor_42 : decode cX3_lineFor 42 = .ok (.iload_n 3, 1) := by decide +kernel
theorem dX3_lineFor_43 : decode cX3_lineFor 43 = .ok (.ifCond .eq 6, 3) := by decide +kernel
theorem dX3_lineFor_46 : decode cX3_lineFor 46 = .ok (.iload 4, 2) := by decide +kernel
theorem dX3_lineFor_48 : decode cX3_lineFor 48 = .ok (.ireturn, 1) := by decide +kernel
theorem dX3_lineFor_49 : decode cX3_lineFor 49 = .ok (.aload_n 0, 1) := by decide +kernel
theorem dX3_lineFor_50 : decode cX3_lineFor 50 = .ok (.getfield 59, 3) := by decide +kernel
theorem dX3_lineFor_53 : decode cX3_lineFor 53 = .ok (.aload_n 0, 1) := by decide +kernel
theorem dX3_lineFor_54 : decode cX3_lineFor 54 = .ok (.getfield 44, 3) := by decide +kernel
theorem dX3_lineFor_57 : decode cX3_lineFor 57 = .ok (.isub, 1) := by decide +kernel
theorem dX3_lineFor_58 : decode cX3_lineFor 58 = .ok (.iconst 0, 1) := by decide +kernel
theorem dX3_lineFor_59 : decode cX3_lineFor 59 = .ok (.invokestatic 62, 3) := by decide +kernel
theorem dX3_lineFor_62 : decode cX3_lineFor 62 = .ok (.istore 5, 2) := by decide +kernel
theorem dX3_lineFor_64 : decode cX3_lineFor 64 = .ok (.iload 5, 2) := by decide +kernel
theorem dX3_lineFor_66 : decode cX3_lineFor 66 = .ok (.aload_n 0, 1) := by decide +kernel
theorem dX3_lineFor_67 : decode cX3_lineFor 67 = .ok (.getfield 33, 3) := by decide +kernel
theorem dX3_lineFor_70 : decode cX3_lineFor 70 = .ok (.iconst 0, 1) := by decide +kernel
theorem dX3_lineFor_71 : decode cX3_lineFor 71 = .ok (.iaload, 1) := by decide +kernel
theorem dX3_lineFor_72 : decode cX3_lineFor 72 = .ok (.iadd, 1) := by decide +kernel
theorem dX3_lineFor_73 : decode cX3_lineFor 73 = .ok (.aload_n 0, 1) := by decide +kernel
theorem dX3_lineFor_74 : decode cX3_lineFor 74 = .ok (.getfield 33, 3) := by decide +kernel
theorem dX3_lineFor_77 : decode cX3_lineFor 77 = .ok (.iconst 1, 1) := by decide +kernel
theorem dX3_lineFor_78 : decode cX3_lineFor 78 = .ok (.iaload, 1) := by decide +kernel
theorem dX3_lineFor_79 : decode cX3_lineFor 79 = .ok (.iadd, 1) := by decide +kernel
theorem dX3_lineFor_80 : decode cX3_lineFor 80 = .ok (.istore 6, 2) := by decide +kernel
theorem dX3_lineFor_82 : decode cX3_lineFor 82 = .ok (.aload_n 0, 1) := by decide +kernel
theorem dX3_lineFor_83 : decode cX3_lineFor 83 = .ok (.getfield 68, 3) := by decide +kernel
theorem dX3_lineFor_86 : decode cX3_lineFor 86 = .ok (.iload 5, 2) := by decide +kernel
theorem dX3_lineFor_88 : decode cX3_lineFor 88 = .ok (.aload_n 0, 1) := by decide +kernel
theorem dX3_lineFor_89 : decode cX3_lineFor 89 = .ok (.getfield 33, 3) := by decide +kernel
theorem dX3_lineFor_92 : decode cX3_lineFor 92 = .ok (.iconst 1, 1) := by decide +kernel
theorem dX3_lineFor_93 : decode cX3_lineFor 93 = .ok (.iaload, 1) := by decide +kernel
theorem dX3_lineFor_94 : decode cX3_lineFor 94 = .ok (.iadd, 1) := by decide +kernel
theorem dX3_lineFor_95 : decode cX3_lineFor 95 = .ok (.iload 6, 2) := by decide +kernel
theorem dX3_lineFor_97 : decode cX3_lineFor 97 = .ok (.invokevirtual 144, 3) := by decide +kernel
theorem dX3_lineFor_100 : decode cX3_lineFor 100 = .ok (.istore 7, 2) := by decide +kernel
theorem dX3_lineFor_102 : decode cX3_lineFor 102 = .ok (.aload_n 0, 1) := by decide +kernel
theorem dX3_lineFor_103 : decode cX3_lineFor 103 = .ok (.getfield 36, 3) := by decide +kernel
theorem dX3_lineFor_106 : decode cX3_lineFor 106 = .ok (.iload_n 1, 1) := by decide +kernel
theorem dX3_lineFor_107 : decode cX3_lineFor 107 = .ok (.aaload, 1) := by decide +kernel
theorem dX3_lineFor_108 : decode cX3_lineFor 108 = .ok (.iconst 0, 1) := by decide +kernel
theorem dX3_lineFor_109 : decode cX3_lineFor 109 = .ok (.iaload, 1) := by decide +kernel
theorem dX3_lineFor_110 : decode cX3_lineFor 110 = .ok (.iload 6, 2) := by decide +kernel
theorem dX3_lineFor_112 : decode cX3_lineFor 112 = .ok (.imul, 1) := by decide +kernel
theorem dX3_lineFor_113 : decode cX3_lineFor 113 = .ok (.istore 8, 2) := by decide +kernel
theorem dX3_lineFor_115 : decode cX3_lineFor 115 = .ok (.aload_n 0, 1) := by decide +kernel
theorem dX3_lineFor_116 : decode cX3_lineFor 116 = .ok (.getfield 36, 3) := by decide +kernel
theorem dX3_lineFor_119 : decode cX3_lineFor 119 = .ok (.iload_n 1, 1) := by decide +kernel
theorem dX3_lineFor_120 : decode cX3_lineFor 120 = .ok (.aaload, 1) := by decide +kernel
theorem dX3_lineFor_121 : decode cX3_lineFor 121 = .ok (.iconst 0, 1) := by decide +kernel
theorem dX3_lineFor_122 : decode cX3_lineFor 122 = .ok (.iaload, 1) := by decide +kernel
theorem dX3_lineFor_123 : decode cX3_lineFor 123 = .ok (.iload 7, 2) := by decide +kernel
theorem dX3_lineFor_125 : decode cX3_lineFor 125 = .ok (.imul, 1) := by decide +kernel
theorem dX3_lineFor_126 : decode cX3_lineFor 126 = .ok (.iload_n 2, 1) := by decide +kernel
theorem dX3_lineFor_127 : decode cX3_lineFor 127 = .ok (.iadd, 1) := by decide +kernel
theorem dX3_lineFor_128 : decode cX3_lineFor 128 = .ok (.istore 9, 2) := by decide +kernel
theorem dX3_lineFor_130 : decode cX3_lineFor 130 = .ok (.iload_n 3, 1) := by decide +kernel
theorem dX3_lineFor_131 : decode cX3_lineFor 131 = .ok (.ifCond .eq 14, 3) := by decide +kernel
theorem dX3_lineFor_134 : decode cX3_lineFor 134 = .ok (.iload 9, 2) := by decide +kernel
theorem dX3_lineFor_136 : decode cX3_lineFor 136 = .ok (.iload 8, 2) := by decide +kernel
theorem dX3_lineFor_138 : decode cX3_lineFor 138 = .ok (.if_icmp .ge 7, 3) := by decide +kernel
theorem dX3_lineFor_141 : decode cX3_lineFor 141 = .ok (.iconst 1, 1) := by decide +kernel
theorem dX3_lineFor_142 : decode cX3_lineFor 142 = .ok (.goto 4, 3) := by decide +kernel
theorem dX3_lineFor_145 : decode cX3_lineFor 145 = .ok (.iconst 0, 1) := by decide +kernel
theorem dX3_lineFor_146 : decode cX3_lineFor 146 = .ok (.istore 10, 2) := by decide +kernel
theorem dX3_lineFor_148 : decode cX3_lineFor 148 = .ok (.iload 10, 2) := by decide +kernel
theorem dX3_lineFor_150 : decode cX3_lineFor 150 = .ok (.iconst 1, 1) := by decide +kernel
theorem dX3_lineFor_151 : decode cX3_lineFor 151 = .ok (.if_icmp .ne 8, 3) := by decide +kernel
theorem dX3_lineFor_154 : decode cX3_lineFor 154 = .ok (.iload 9, 2) := by decide +kernel
theorem dX3_lineFor_156 : decode cX3_lineFor 156 = .ok (.goto 5, 3) := by decide +kernel
theorem dX3_lineFor_159 : decode cX3_lineFor 159 = .ok (.iload 8, 2) := by decide +kernel
theorem dX3_lineFor_161 : decode cX3_lineFor 161 = .ok (.istore 11, 2) := by decide +kernel
theorem dX3_lineFor_163 : decode cX3_lineFor 163 = .ok (.iload 11, 2) := by decide +kernel
theorem dX3_lineFor_165 : decode cX3_lineFor 165 = .ok (.aload_n 0, 1) := by decide +kernel
theorem dX3_lineFor_166 : decode cX3_lineFor 166 = .ok (.getfield 36, 3) := by decide +kernel
theorem dX3_lineFor_169 : decode cX3_lineFor 169 = .ok (.iload_n 1, 1) := by decide +kernel
theorem dX3_lineFor_170 : decode cX3_lineFor 170 = .ok (.aaload, 1) := by decide +kernel
theorem dX3_lineFor_171 : decode cX3_lineFor 171 = .ok (.iconst 1, 1) := by decide +kernel
theorem dX3_lineFor_172 : decode cX3_lineFor 172 = .ok (.iaload, 1) := by decide +kernel
theorem dX3_lineFor_173 : decode cX3_lineFor 173 = .ok (.if_icmp .gt 26, 3) := by decide +kernel
theorem dX3_lineFor_176 : decode cX3_lineFor 176 = .ok (.aload_n 0, 1) := by decide +kernel
theorem dX3_lineFor_177 : decode cX3_lineFor 177 = .ok (.getfield 68, 3) := by decide +kernel
theorem dX3_lineFor_180 : decode cX3_lineFor 180 = .ok (.aload_n 0, 1) := by decide +kernel
theorem dX3_lineFor_181 : decode cX3_lineFor 181 = .ok (.getfield 30, 3) := by decide +kernel
theorem dX3_lineFor_184 : decode cX3_lineFor 184 = .ok (.iconst 0, 1) := by decide +kernel
theorem dX3_lineFor_185 : decode cX3_lineFor 185 = .ok (.iaload, 1) := by decide +kernel
theorem dX3_lineFor_186 : decode cX3_lineFor 186 = .ok (.aload_n 0, 1) := by decide +kernel
theorem dX3_lineFor_187 : decode cX3_lineFor 187 = .ok (.getfield 30, 3) := by decide +kernel
theorem dX3_lineFor_190 : decode cX3_lineFor 190 = .ok (.iconst 1, 1) := by decide +kernel
theorem dX3_lineFor_191 : decode cX3_lineFor 191 = .ok (.iaload, 1) := by decide +kernel
theorem dX3_lineFor_192 : decode cX3_lineFor 192 = .ok (.iadd, 1) := by decide +kernel
theorem dX3_lineFor_193 : decode cX3_lineFor 193 = .ok (.invokevirtual 147, 3) := by decide +kernel
theorem dX3_lineFor_196 : decode cX3_lineFor 196 = .ok (.ifCond .eq 7, 3) := by decide +kernel
theorem dX3_lineFor_199 : decode cX3_lineFor 199 = .ok (.iconst 1, 1) := by decide +kernel
theorem dX3_lineFor_200 : decode cX3_lineFor 200 = .ok (.goto 4, 3) := by decide +kernel
theorem dX3_lineFor_203 : decode cX3_lineFor 203 = .ok (.iconst 0, 1) := by decide +kernel
theorem dX3_lineFor_204 : decode cX3_lineFor 204 = .ok (.istore 12, 2) := by decide +kernel
theorem dX3_lineFor_206 : decode cX3_lineFor 206 = .ok (.iload 12, 2) := by decide +kernel
theorem dX3_lineFor_208 : decode cX3_lineFor 208 = .ok (.ifCond .eq 7, 3) := by decide +kernel
theorem dX3_lineFor_211 : decode cX3_lineFor 211 = .ok (.iconst 2, 1) := by decide +kernel
theorem dX3_lineFor_212 : decode cX3_lineFor 212 = .ok (.goto 5, 3) := by decide +kernel
theorem dX3_lineFor_215 : decode cX3_lineFor 215 = .ok (.iload 10, 2) := by decide +kernel
theorem dX3_lineFor_217 : decode cX3_lineFor 217 = .ok (.ireturn, 1) := by decide +kernel
theorem dX3_serve_0 : decode cX3_serve 0 = .ok (.aload_n 0, 1) := by decide +kernel
theorem dX3_serve_1 : decode cX3_serve 1 = .ok (.getfield 44, 3) := by decide +kernel
theorem dX3_serve_4 : decode cX3_serve 4 = .ok (.aload_n 0, 1) := by decide +kernel
theorem dX3_serve_5 : decode cX3_serve 5 = .ok (.getfield 59, 3) := by decide +kernel
theorem dX3_serve_8 : decode cX3_serve 8 = .ok (.if_icmp .ge 4, 3) := by decide +kernel
theorem dX3_serve_11 : decode cX3_serve 11 = .ok (.return_, 1) := by decide +kernel
theorem dX3_serve_12 : decode cX3_serve 12 = .ok (.aload_n 0, 1) := by decide +kernel
theorem dX3_serve_13 : decode cX3_serve 13 = .ok (.getfield 68, 3) := by decide +kernel
theorem dX3_serve_16 : decode cX3_serve 16 = .ok (.aload_n 0, 1) := by decide +kernel
theorem dX3_serve_17 : decode cX3_serve 17 = .ok (.iconst 1, 1) := by decide +kernel
theorem dX3_serve_18 : decode cX3_serve 18 = .ok (.invokevirtual 151, 3) := by decide +kernel
theorem dX3_serve_21 : decode cX3_serve 21 = .ok (.aload_n 0, 1) := by decide +kernel
theorem dX3_serve_22 : decode cX3_serve 22 = .ok (.iconst 0, 1) := by decide +kernel
theorem dX3_serve_23 : decode cX3_serve 23 = .ok (.invokevirtual 151, 3) := by decide +kernel
theorem dX3_serve_26 : decode cX3_serve 26 = .ok (.aload_n 0, 1) := by decide +kernel
theorem dX3_serve_27 : decode cX3_serve 27 = .ok (.getfield 91, 3) := by decide +kernel
theorem dX3_serve_30 : decode cX3_serve 30 = .ok (.invokevirtual 154, 3) := by decide +kernel
theorem dX3_serve_33 : decode cX3_serve 33 = .ok (.istore_n 1, 1) := by decide +kernel
theorem dX3_serve_34 : decode cX3_serve 34 = .ok (.iload_n 1, 1) := by decide +kernel
theorem dX3_serve_35 : decode cX3_serve 35 = .ok (.ifCond .lt 12, 3) := by decide +kernel
theorem dX3_serve_38 : decode cX3_serve 38 = .ok (.aload_n 0, 1) := by decide +kernel
theorem dX3_serve_39 : decode cX3_serve 39 = .ok (.getfield 85, 3) := by decide +kernel
theorem dX3_serve_42 : decode cX3_serve 42 = .ok (.bipush 40, 2) := by decide +kernel
theorem dX3_serve_44 : decode cX3_serve 44 = .ok (.if_icmp .lt 4, 3) := by decide +kernel
theorem dX3_serve_47 : decode cX3_serve 47 = .ok (.return_, 1) := by decide +kernel
theorem dX3_serve_48 : decode cX3_serve 48 = .ok (.aload_n 0, 1) := by decide +kernel
theorem dX3_serve_49 : decode cX3_serve 49 = .ok (.getfield 18, 3) := by decide +kernel
theorem dX3_serve_52 : decode cX3_serve 52 = .ok (.iload_n 1, 1) := by decide +kernel
theorem dX3_serve_53 : decode cX3_serve 53 = .ok (.iaload, 1) := by decide +kernel
theorem dX3_serve_54 : decode cX3_serve 54 = .ok (.istore_n 2, 1) := by decide +kernel
theorem dX3_serve_55 : decode cX3_serve 55 = .ok (.aload_n 0, 1) := by decide +kernel
theorem dX3_serve_56 : decode cX3_serve 56 = .ok (.aload_n 0, 1) := by decide +kernel
theorem dX3_serve_57 : decode cX3_serve 57 = .ok (.getfield 9, 3) := by decide +kernel
theorem dX3_serve_60 : decode cX3_serve 60 = .ok (.iload_n 1, 1) := by decide +kernel
theorem dX3_serve_61 : decode cX3_serve 61 = .ok (.iaload, 1) := by decide +kernel
theorem dX3_serve_62 : decode cX3_serve 62 = .ok (.invokevirtual 137, 3) := by decide +kernel
theorem dX3_serve_65 : decode cX3_serve 65 = .ok (.istore_n 3, 1) := by decide +kernel
theorem dX3_serve_66 : decode cX3_serve 66 = .ok (.aload_n 0, 1) := by decide +kernel
theorem dX3_serve_67 : decode cX3_serve 67 = .ok (.iload_n 2, 1) := by decide +kernel
theorem dX3_serve_68 : decode cX3_serve 68 = .ok (.iconst 1, 1) := by decide +kernel
theorem dX3_serve_69 : decode cX3_serve 69 = .ok (.if_icmp .ne 12, 3) := by decide +kernel
theorem dX3_serve_72 : decode cX3_serve 72 = .ok (.aload_n 0, 1) := by decide +kernel
theorem dX3_serve_73 : decode cX3_serve 73 = .ok (.getfield 91, 3) := by decide +kernel
theorem dX3_serve_76 : decode cX3_serve 76 = .ok (.iconst 1, 1) := by decide +kernel
theorem dX3_serve_77 : decode cX3_serve 77 = .ok (.iadd, 1) := by decide +kernel
theorem dX3_serve_78 : decode cX3_serve 78 = .ok (.goto 4, 3) := by decide +kernel
theorem dX3_serve_81 : decode cX3_serve 81 = .ok (.iconst 0, 1) := by decide +kernel
theorem dX3_serve_82 : decode cX3_serve 82 = .ok (.putfield 91, 3) := by decide +kernel
theorem dX3_serve_85 : decode cX3_serve 85 = .ok (.aload_n 0, 1) := by decide +kernel
theorem dX3_serve_86 : decode cX3_serve 86 = .ok (.getfield 30, 3) := by decide +kernel
theorem dX3_serve_89 : decode cX3_serve 89 = .ok (.iload_n 2, 1) := by decide +kernel
theorem dX3_serve_90 : decode cX3_serve 90 = .ok (.dup2, 1) := by decide +kernel
theorem dX3_serve_91 : decode cX3_serve 91 = .ok (.iaload, 1) := by decide +kernel
theorem dX3_serve_92 : decode cX3_serve 92 = .ok (.iconst 1, 1) := by decide +kernel
theorem dX3_serve_93 : decode cX3_serve 93 = .ok (.isub, 1) := by decide +kernel
theorem dX3_serve_94 : decode cX3_serve 94 = .ok (.iastore, 1) := by decide +kernel
theorem dX3_serve_95 : decode cX3_serve 95 = .ok (.aload_n 0, 1) := by decide +kernel
theorem dX3_serve_96 : decode cX3_serve 96 = .ok (.getfield 33, 3) := by decide +kernel
theorem dX3_serve_99 : decode cX3_serve 99 = .ok (.iload_n 2, 1) := by decide +kernel
theorem dX3_serve_100 : decode cX3_serve 100 = .ok (.dup2, 1) := by decide +kernel
theorem dX3_serve_101 : decode cX3_serve 101 = .ok (.iaload, 1) := by decide +kernel
theorem dX3_serve_102 : decode cX3_serve 102 = .ok (.iload_n 3, 1) := by decide +kernel
theorem dX3_serve_103 : decode cX3_serve 103 = .ok (.isub, 1) := by decide +kernel
theorem dX3_serve_104 : decode cX3_serve 104 = .ok (.iastore, 1) := by decide +kernel
theorem dX3_serve_105 : decode cX3_serve 105 = .ok (.aload_n 0, 1) := by decide +kernel
theorem dX3_serve_106 : decode cX3_serve 106 = .ok (.getfield 24, 3) := by decide +kernel
theorem dX3_serve_109 : decode cX3_serve 109 = .ok (.iload_n 1, 1) := by decide +kernel
theorem dX3_serve_110 : decode cX3_serve 110 = .ok (.aload_n 0, 1) := by decide +kernel
theorem dX3_serve_111 : decode cX3_serve 111 = .ok (.getfield 44, 3) := by decide +kernel
theorem dX3_serve_114 : decode cX3_serve 114 = .ok (.iastore, 1) := by decide +kernel
theorem dX3_serve_115 : decode cX3_serve 115 = .ok (.aload_n 0, 1) := by decide +kernel
theorem dX3_serve_116 : decode cX3_serve 116 = .ok (.aload_n 0, 1) := by decide +kernel
theorem dX3_serve_117 : decode cX3_serve 117 = .ok (.getfield 44, 3) := by decide +kernel
theorem dX3_serve_120 : decode cX3_serve 120 = .ok (.iload_n 3, 1) := by decide +kernel
theorem dX3_serve_121 : decode cX3_serve 121 = .ok (.iadd, 1) := by decide +kernel
theorem dX3_serve_122 : decode cX3_serve 122 = .ok (.putfield 59, 3) := by decide +kernel
theorem dX3_serve_125 : decode cX3_serve 125 = .ok (.aload_n 0, 1) := by decide +kernel
theorem dX3_serve_126 : decode cX3_serve 126 = .ok (.getfield 27, 3) := by decide +kernel
theorem dX3_serve_129 : decode cX3_serve 129 = .ok (.aload_n 0, 1) := by decide +kernel
theorem dX3_serve_130 : decode cX3_serve 130 = .ok (.getfield 85, 3) := by decide +kernel
theorem dX3_serve_133 : decode cX3_serve 133 = .ok (.iload_n 1, 1) := by decide +kernel
theorem dX3_serve_134 : decode cX3_serve 134 = .ok (.iastore, 1) := by decide +kernel
theorem dX3_serve_135 : decode cX3_serve 135 = .ok (.aload_n 0, 1) := by decide +kernel
theorem dX3_serve_136 : decode cX3_serve 136 = .ok (.dup, 1) := by decide +kernel
theorem dX3_serve_137 : decode cX3_serve 137 = .ok (.getfield 85, 3) := by decide +kernel
theorem dX3_serve_140 : decode cX3_serve 140 = .ok (.iconst 1, 1) := by decide +kernel
theorem dX3_serve_141 : decode cX3_serve 141 = .ok (.iadd, 1) := by decide +kernel
theorem dX3_serve_142 : decode cX3_serve 142 = .ok (.putfield 85, 3) := by decide +kernel
theorem dX3_serve_145 : decode cX3_serve 145 = .ok (.return_, 1) := by decide +kernel
theorem dX3_firstOf_0 : decode cX3_firstOf 0 = .ok (.aload_n 0, 1) := by decide +kernel
theorem dX3_firstOf_1 : decode cX3_firstOf 1 = .ok (.getfield 30, 3) := by decide +kernel
theorem dX3_firstOf_4 : decode cX3_firstOf 4 = .ok (.iload_n 1, 1) := by decide +kernel
theorem dX3_firstOf_5 : decode cX3_firstOf 5 = .ok (.iaload, 1) := by decide +kernel
theorem dX3_firstOf_6 : decode cX3_firstOf 6 = .ok (.ifCond .le 40, 3) := by decide +kernel
theorem dX3_firstOf_9 : decode cX3_firstOf 9 = .ok (.iconst 0, 1) := by decide +kernel
theorem dX3_firstOf_10 : decode cX3_firstOf 10 = .ok (.istore_n 2, 1) := by decide +kernel
theorem dX3_firstOf_11 : decode cX3_firstOf 11 = .ok (.iload_n 2, 1) := by decide +kernel
theorem dX3_firstOf_12 : decode cX3_firstOf 12 = .ok (.aload_n 0, 1) := by decide +kernel
theorem dX3_firstOf_13 : decode cX3_firstOf 13 = .ok (.getfield 82, 3) := by decide +kernel
theorem dX3_firstOf_16 : decode cX3_firstOf 16 = .ok (.if_icmp .ge 30, 3) := by decide +kernel
theorem dX3_firstOf_19 : decode cX3_firstOf 19 = .ok (.aload_n 0, 1) := by decide +kernel
theorem dX3_firstOf_20 : decode cX3_firstOf 20 = .ok (.getfield 18, 3) := by decide +kernel
theorem dX3_firstOf_23 : decode cX3_firstOf 23 = .ok (.iload_n 2, 1) := by decide +kernel
theorem dX3_firstOf_24 : decode cX3_firstOf 24 = .ok (.iaload, 1) := by decide +kernel
theorem dX3_firstOf_25 : decode cX3_firstOf 25 = .ok (.iload_n 1, 1) := by decide +kernel
theorem dX3_firstOf_26 : decode cX3_firstOf 26 = .ok (.if_icmp .ne 14, 3) := by decide +kernel
theorem dX3_firstOf_29 : decode cX3_firstOf 29 = .ok (.aload_n 0, 1) := by decide +kernel
theorem dX3_firstOf_30 : decode cX3_firstOf 30 = .ok (.getfield 24, 3) := by decide +kernel
theorem dX3_firstOf_33 : decode cX3_firstOf 33 = .ok (.iload_n 2, 1) := by decide +kernel
theorem dX3_firstOf_34 : decode cX3_firstOf 34 = .ok (.iaload, 1) := by decide +kernel
theorem dX3_firstOf_35 : decode cX3_firstOf 35 = .ok (.ifCond .ge 5, 3) := by decide +kernel
theorem dX3_firstOf_38 : decode cX3_firstOf 38 = .ok (.iload_n 2, 1) := by decide +kernel
theorem dX3_firstOf_39 : decode cX3_firstOf 39 = .ok (.ireturn, 1) := by decide +kernel
theorem dX3_firstOf_40 : decode cX3_firstOf 40 = .ok (.iinc 2 1, 3) := by decide +kernel
theorem dX3_firstOf_43 : decode cX3_firstOf 43 = .ok (.goto (-32), 3) := by decide +kernel
theorem dX3_firstOf_46 : decode cX3_firstOf 46 = .ok (.iconst (-1), 1) := by decide +kernel
theorem dX3_firstOf_47 : decode cX3_firstOf 47 = .ok (.ireturn, 1) := by decide +kernel
theorem dX3_timeOf_0 : decode cX3_timeOf 0 = .ok (.aload_n 0, 1) := by decide +kernel
theorem dX3_timeOf_1 : decode cX3_timeOf 1 = .ok (.getfield 36, 3) := by decide +kernel
theorem dX3_timeOf_4 : decode cX3_timeOf 4 = .ok (.iload_n 1, 1) := by decide +kernel
theorem dX3_timeOf_5 : decode cX3_timeOf 5 = .ok (.aaload, 1) := by decide +kernel
theorem dX3_timeOf_6 : decode cX3_timeOf 6 = .ok (.iconst 3, 1) := by decide +kernel
theorem dX3_timeOf_7 : decode cX3_timeOf 7 = .ok (.iaload, 1) := by decide +kernel
theorem dX3_timeOf_8 : decode cX3_timeOf 8 = .ok (.aload_n 0, 1) := by decide +kernel
theorem dX3_timeOf_9 : decode cX3_timeOf 9 = .ok (.getfield 79, 3) := by decide +kernel
theorem dX3_timeOf_12 : decode cX3_timeOf 12 = .ok (.iadd, 1) := by decide +kernel
theorem dX3_timeOf_13 : decode cX3_timeOf 13 = .ok (.ireturn, 1) := by decide +kernel
theorem dX3_waits_0 : decode cX3_waits 0 = .ok (.iload_n 1, 1) := by decide +kernel
theorem dX3_waits_1 : decode cX3_waits 1 = .ok (.ifCond .lt 21, 3) := by decide +kernel
theorem dX3_waits_4 : decode cX3_waits 4 = .ok (.iload_n 1, 1) := by decide +kernel
theorem dX3_waits_5 : decode cX3_waits 5 = .ok (.aload_n 0, 1) := by decide +kernel
theorem dX3_waits_6 : decode cX3_waits 6 = .ok (.getfield 82, 3) := by decide +kernel
theorem dX3_waits_9 : decode cX3_waits 9 = .ok (.if_icmp .ge 13, 3) := by decide +kernel
theorem dX3_waits_12 : decode cX3_waits 12 = .ok (.aload_n 0, 1) := by decide +kernel
theorem dX3_waits_13 : decode cX3_waits 13 = .ok (.getfield 18, 3) := by decide +kernel
theorem dX3_waits_16 : decode cX3_waits 16 = .ok (.iload_n 1, 1) := by decide +kernel
theorem dX3_waits_17 : decode cX3_waits 17 = .ok (.iaload, 1) := by decide +kernel
theorem dX3_waits_18 : decode cX3_waits 18 = .ok (.iconst 2, 1) := by decide +kernel
theorem dX3_waits_19 : decode cX3_waits 19 = .ok (.if_icmp .ne 8, 3) := by decide +kernel
theorem dX3_waits_22 : decode cX3_waits 22 = .ok (.bipush (-5), 2) := by decide +kernel
theorem dX3_waits_24 : decode cX3_waits 24 = .ok (.goto 16, 3) := by decide +kernel
theorem dX3_waits_27 : decode cX3_waits 27 = .ok (.aload_n 0, 1) := by decide +kernel
theorem dX3_waits_28 : decode cX3_waits 28 = .ok (.getfield 24, 3) := by decide +kernel
theorem dX3_waits_31 : decode cX3_waits 31 = .ok (.iload_n 1, 1) := by decide +kernel
theorem dX3_waits_32 : decode cX3_waits 32 = .ok (.iaload, 1) := by decide +kernel
theorem dX3_waits_33 : decode cX3_waits 33 = .ok (.aload_n 0, 1) := by decide +kernel
theorem dX3_waits_34 : decode cX3_waits 34 = .ok (.getfield 15, 3) := by decide +kernel
theorem dX3_waits_37 : decode cX3_waits 37 = .ok (.iload_n 1, 1) := by decide +kernel
theorem dX3_waits_38 : decode cX3_waits 38 = .ok (.iaload, 1) := by decide +kernel
theorem dX3_waits_39 : decode cX3_waits 39 = .ok (.isub, 1) := by decide +kernel
theorem dX3_waits_40 : decode cX3_waits 40 = .ok (.ireturn, 1) := by decide +kernel
theorem dX3_rank_0 : decode cX3_rank 0 = .ok (.iconst 0, 1) := by decide +kernel
theorem dX3_rank_1 : decode cX3_rank 1 = .ok (.istore_n 2, 1) := by decide +kernel
theorem dX3_rank_2 : decode cX3_rank 2 = .ok (.iload_n 2, 1) := by decide +kernel
theorem dX3_rank_3 : decode cX3_rank 3 = .ok (.aload_n 0, 1) := by decide +kernel
theorem dX3_rank_4 : decode cX3_rank 4 = .ok (.getfield 85, 3) := by decide +kernel
theorem dX3_rank_7 : decode cX3_rank 7 = .ok (.if_icmp .ge 21, 3) := by decide +kernel
theorem dX3_rank_10 : decode cX3_rank 10 = .ok (.aload_n 0, 1) := by decide +kernel
theorem dX3_rank_11 : decode cX3_rank 11 = .ok (.getfield 27, 3) := by decide +kernel
theorem dX3_rank_14 : decode cX3_rank 14 = .ok (.iload_n 2, 1) := by decide +kernel
theorem dX3_rank_15 : decode cX3_rank 15 = .ok (.iaload, 1) := by decide +kernel
theorem dX3_rank_16 : decode cX3_rank 16 = .ok (.iload_n 1, 1) := by decide +kernel
theorem dX3_rank_17 : decode cX3_rank 17 = .ok (.if_icmp .ne 5, 3) := by decide +kernel
theorem dX3_rank_20 : decode cX3_rank 20 = .ok (.iload_n 2, 1) := by decide +kernel
theorem dX3_rank_21 : decode cX3_rank 21 = .ok (.ireturn, 1) := by decide +kernel
theorem dX3_rank_22 : decode cX3_rank 22 = .ok (.iinc 2 1, 3) := by decide +kernel
theorem dX3_rank_25 : decode cX3_rank 25 = .ok (.goto (-23), 3) := by decide +kernel
theorem dX3_rank_28 : decode cX3_rank 28 = .ok (.bipush (-5), 2) := by decide +kernel
theorem dX3_rank_30 : decode cX3_rank 30 = .ok (.ireturn, 1) := by decide +kernel
theorem dX3_howMany_0 : decode cX3_howMany 0 = .ok (.iconst 0, 1) := by decide +kernel
theorem dX3_howMany_1 : decode cX3_howMany 1 = .ok (.istore_n 2, 1) := by decide +kernel
theorem dX3_howMany_2 : decode cX3_howMany 2 = .ok (.iconst 0, 1) := by decide +kernel
theorem dX3_howMany_3 : decode cX3_howMany 3 = .ok (.istore_n 3, 1) := by decide +kernel
theorem dX3_howMany_4 : decode cX3_howMany 4 = .ok (.iload_n 3, 1) := by decide +kernel
theorem dX3_howMany_5 : decode cX3_howMany 5 = .ok (.aload_n 0, 1) := by decide +kernel
theorem dX3_howMany_6 : decode cX3_howMany 6 = .ok (.getfield 82, 3) := by decide +kernel
theorem dX3_howMany_9 : decode cX3_howMany 9 = .ok (.if_icmp .ge 22, 3) := by decide +kernel
theorem dX3_howMany_12 : decode cX3_howMany 12 = .ok (.aload_n 0, 1) := by decide +kernel
theorem dX3_howMany_13 : decode cX3_howMany 13 = .ok (.getfield 18, 3) := by decide +kernel
theorem dX3_howMany_16 : decode cX3_howMany 16 = .ok (.iload_n 3, 1) := by decide +kernel
theorem dX3_howMany_17 : decode cX3_howMany 17 = .ok (.iaload, 1) := by decide +kernel
theorem dX3_howMany_18 : decode cX3_howMany 18 = .ok (.iload_n 1, 1) := by decide +kernel
theorem dX3_howMany_19 : decode cX3_howMany 19 = .ok (.if_icmp .ne 6, 3) := by decide +kernel
theorem dX3_howMany_22 : decode cX3_howMany 22 = .ok (.iinc 2 1, 3) := by decide +kernel
theorem dX3_howMany_25 : decode cX3_howMany 25 = .ok (.iinc 3 1, 3) := by decide +kernel
theorem dX3_howMany_28 : decode cX3_howMany 28 = .ok (.goto (-24), 3) := by decide +kernel
theorem dX3_howMany_31 : decode cX3_howMany 31 = .ok (.iload_n 2, 1) := by decide +kernel
theorem dX3_howMany_32 : decode cX3_howMany 32 = .ok (.ireturn, 1) := by decide +kernel
theorem dX3_stoodAt_0 : decode cX3_stoodAt 0 = .ok (.iconst 0, 1) := by decide +kernel
theorem dX3_stoodAt_1 : decode cX3_stoodAt 1 = .ok (.istore_n 3, 1) := by decide +kernel
theorem dX3_stoodAt_2 : decode cX3_stoodAt 2 = .ok (.iconst 0, 1) := by decide +kernel
theorem dX3_stoodAt_3 : decode cX3_stoodAt 3 = .ok (.istore 4, 2) := by decide +kernel
theorem dX3_stoodAt_5 : decode cX3_stoodAt 5 = .ok (.iload 4, 2) := by decide +kernel
theorem dX3_stoodAt_7 : decode cX3_stoodAt 7 = .ok (.aload_n 0, 1) := by decide +kernel
theorem dX3_stoodAt_8 : decode cX3_stoodAt 8 = .ok (.getfield 82, 3) := by decide +kernel
theorem dX3_stoodAt_11 : decode cX3_stoodAt 11 = .ok (.if_icmp .ge 45, 3) := by decide +kernel
theorem dX3_stoodAt_14 : decode cX3_stoodAt 14 = .ok (.aload_n 0, 1) := by decide +kernel
theorem dX3_stoodAt_15 : decode cX3_stoodAt 15 = .ok (.getfield 18, 3) := by decide +kernel
theorem dX3_stoodAt_18 : decode cX3_stoodAt 18 = .ok (.iload 4, 2) := by decide +kernel
theorem dX3_stoodAt_20 : decode cX3_stoodAt 20 = .ok (.iaload, 1) := by decide +kernel
theorem dX3_stoodAt_21 : decode cX3_stoodAt 21 = .ok (.iload_n 1, 1) := by decide +kernel
theorem dX3_stoodAt_22 : decode cX3_stoodAt 22 = .ok (.if_icmp .ne 28, 3) := by decide +kernel
theorem dX3_stoodAt_25 : decode cX3_stoodAt 25 = .ok (.aload_n 0, 1) := by decide +kernel
theorem dX3_stoodAt_26 : decode cX3_stoodAt 26 = .ok (.getfield 15, 3) := by decide +kernel
theorem dX3_stoodAt_29 : decode cX3_stoodAt 29 = .ok (.iload 4, 2) := by decide +kernel
theorem dX3_stoodAt_31 : decode cX3_stoodAt 31 = .ok (.iaload, 1) := by decide +kernel
theorem dX3_stoodAt_32 : decode cX3_stoodAt 32 = .ok (.iload_n 2, 1) := by decide +kernel
theorem dX3_stoodAt_33 : decode cX3_stoodAt 33 = .ok (.if_icmp .gt 17, 3) := by decide +kernel
theorem dX3_stoodAt_36 : decode cX3_stoodAt 36 = .ok (.aload_n 0, 1) := by decide +kernel
theorem dX3_stoodAt_37 : decode cX3_stoodAt 37 = .ok (.getfield 24, 3) := by decide +kernel
theorem dX3_stoodAt_40 : decode cX3_stoodAt 40 = .ok (.iload 4, 2) := by decide +kernel
theorem dX3_stoodAt_42 : decode cX3_stoodAt 42 = .ok (.iaload, 1) := by decide +kernel
theorem dX3_stoodAt_43 : decode cX3_stoodAt 43 = .ok (.iload_n 2, 1) := by decide +kernel
theorem dX3_stoodAt_44 : decode cX3_stoodAt 44 = .ok (.if_icmp .le 6, 3) := by decide +kernel
theorem dX3_stoodAt_47 : decode cX3_stoodAt 47 = .ok (.iinc 3 1, 3) := by decide +kernel
theorem dX3_stoodAt_50 : decode cX3_stoodAt 50 = .ok (.iinc 4 1, 3) := by decide +kernel
theorem dX3_stoodAt_53 : decode cX3_stoodAt 53 = .ok (.goto (-48), 3) := by decide +kernel
theorem dX3_stoodAt_56 : decode cX3_stoodAt 56 = .ok (.iload_n 3, 1) := by decide +kernel
theorem dX3_stoodAt_57 : decode cX3_stoodAt 57 = .ok (.ireturn, 1) := by decide +kernel
theorem dX3_lost_0 : decode cX3_lost 0 = .ok (.iconst 0, 1) := by decide +kernel
theorem dX3_lost_1 : decode cX3_lost 1 = .ok (.istore_n 1, 1) := by decide +kernel
theorem dX3_lost_2 : decode cX3_lost 2 = .ok (.iconst 0, 1) := by decide +kernel
theorem dX3_lost_3 : decode cX3_lost 3 = .ok (.istore_n 2, 1) := by decide +kernel
theorem dX3_lost_4 : decode cX3_lost 4 = .ok (.iload_n 2, 1) := by decide +kernel
theorem dX3_lost_5 : decode cX3_lost 5 = .ok (.aload_n 0, 1) := by decide +kernel
theorem dX3_lost_6 : decode cX3_lost 6 = .ok (.getfield 82, 3) := by decide +kernel
theorem dX3_lost_9 : decode cX3_lost 9 = .ok (.if_icmp .ge 41, 3) := by decide +kernel
theorem dX3_lost_12 : decode cX3_lost 12 = .ok (.aload_n 0, 1) := by decide +kernel
theorem dX3_lost_13 : decode cX3_lost 13 = .ok (.getfield 18, 3) := by decide +kernel
theorem dX3_lost_16 : decode cX3_lost 16 = .ok (.iload_n 2, 1) := by decide +kernel
theorem dX3_lost_17 : decode cX3_lost 17 = .ok (.iaload, 1) := by decide +kernel
theorem dX3_lost_18 : decode cX3_lost 18 = .ok (.iconst 2, 1) := by decide +kernel
theorem dX3_lost_19 : decode cX3_lost 19 = .ok (.if_icmp .eq 25, 3) := by decide +kernel
theorem dX3_lost_22 : decode cX3_lost 22 = .ok (.iload_n 1, 1) := by decide +kernel
theorem dX3_lost_23 : decode cX3_lost 23 = .ok (.aload_n 0, 1) := by decide +kernel
theorem dX3_lost_24 : decode cX3_lost 24 = .ok (.getfield 36, 3) := by decide +kernel
theorem dX3_lost_27 : decode cX3_lost 27 = .ok (.aload_n 0, 1) := by decide +kernel
theorem dX3_lost_28 : decode cX3_lost 28 = .ok (.getfield 9, 3) := by decide +kernel
theorem dX3_lost_31 : decode cX3_lost 31 = .ok (.iload_n 2, 1) := by decide +kernel
theorem dX3_lost_32 : decode cX3_lost 32 = .ok (.iaload, 1) := by decide +kernel
theorem dX3_lost_33 : decode cX3_lost 33 = .ok (.aaload, 1) := by decide +kernel
theorem dX3_lost_34 : decode cX3_lost 34 = .ok (.iconst 0, 1) := by decide +kernel
theorem dX3_lost_35 : decode cX3_lost 35 = .ok (.iaload, 1) := by decide +kernel
theorem dX3_lost_36 : decode cX3_lost 36 = .ok (.aload_n 0, 1) := by decide +kernel
theorem dX3_lost_37 : decode cX3_lost 37 = .ok (.iload_n 2, 1) := by decide +kernel
theorem dX3_lost_38 : decode cX3_lost 38 = .ok (.invokevirtual 158, 3) := by decide +kernel
theorem dX3_lost_41 : decode cX3_lost 41 = .ok (.imul, 1) := by decide +kernel
theorem dX3_lost_42 : decode cX3_lost 42 = .ok (.iadd, 1) := by decide +kernel
theorem dX3_lost_43 : decode cX3_lost 43 = .ok (.istore_n 1, 1) := by decide +kernel
theorem dX3_lost_44 : decode cX3_lost 44 = .ok (.iinc 2 1, 3) := by decide +kernel
theorem dX3_lost_47 : decode cX3_lost 47 = .ok (.goto (-43), 3) := by decide +kernel
theorem dX3_lost_50 : decode cX3_lost 50 = .ok (.iload_n 1, 1) := by decide +kernel
theorem dX3_lost_51 : decode cX3_lost 51 = .ok (.ireturn, 1) := by decide +kernel
theorem dX3_pence_0 : decode cX3_pence 0 = .ok (.iconst 0, 1) := by decide +kernel
theorem dX3_pence_1 : decode cX3_pence 1 = .ok (.istore_n 1, 1) := by decide +kernel
theorem dX3_pence_2 : decode cX3_pence 2 = .ok (.iconst 0, 1) := by decide +kernel
theorem dX3_pence_3 : decode cX3_pence 3 = .ok (.istore_n 2, 1) := by decide +kernel
theorem dX3_pence_4 : decode cX3_pence 4 = .ok (.iload_n 2, 1) := by decide +kernel
theorem dX3_pence_5 : decode cX3_pence 5 = .ok (.aload_n 0, 1) := by decide +kernel
theorem dX3_pence_6 : decode cX3_pence 6 = .ok (.getfield 82, 3) := by decide +kernel
theorem dX3_pence_9 : decode cX3_pence 9 = .ok (.if_icmp .ge 18, 3) := by decide +kernel
theorem dX3_pence_12 : decode cX3_pence 12 = .ok (.iload_n 1, 1) := by decide +kernel
theorem dX3_pence_13 : decode cX3_pence 13 = .ok (.aload_n 0, 1) := by decide +kernel
theorem dX3_pence_14 : decode cX3_pence 14 = .ok (.getfield 21, 3) := by decide +kernel
theorem dX3_pence_17 : decode cX3_pence 17 = .ok (.iload_n 2, 1) := by decide +kernel
theorem dX3_pence_18 : decode cX3_pence 18 = .ok (.iaload, 1) := by decide +kernel
theorem dX3_pence_19 : decode cX3_pence 19 = .ok (.iadd, 1) := by decide +kernel
theorem dX3_pence_20 : decode cX3_pence 20 = .ok (.istore_n 1, 1) := by decide +kernel
theorem dX3_pence_21 : decode cX3_pence 21 = .ok (.iinc 2 1, 3) := by decide +kernel
theorem dX3_pence_24 : decode cX3_pence 24 = .ok (.goto (-20), 3) := by decide +kernel
theorem dX3_pence_27 : decode cX3_pence 27 = .ok (.iload_n 1, 1) := by decide +kernel
theorem dX3_pence_28 : decode cX3_pence 28 = .ok (.ireturn, 1) := by decide +kernel
theorem dX3_back_0 : decode cX3_back 0 = .ok (.aload_n 0, 1) := by decide +kernel
theorem dX3_back_1 : decode cX3_back 1 = .ok (.iconst 0, 1) := by decide +kernel
theorem dX3_back_2 : decode cX3_back 2 = .ok (.invokevirtual 161, 3) := by decide +kernel
theorem dX3_back_5 : decode cX3_back 5 = .ok (.istore_n 1, 1) := by decide +kernel
theorem dX3_back_6 : decode cX3_back 6 = .ok (.iload_n 1, 1) := by decide +kernel
theorem dX3_back_7 : decode cX3_back 7 = .ok (.ifCond .ne 7, 3) := by decide +kernel
theorem dX3_back_10 : decode cX3_back 10 = .ok (.iconst 0, 1) := by decide +kernel
theorem dX3_back_11 : decode cX3_back 11 = .ok (.goto 9, 3) := by decide +kernel
theorem dX3_back_14 : decode cX3_back 14 = .ok (.aload_n 0, 1) := by decide +kernel
theorem dX3_back_15 : decode cX3_back 15 = .ok (.invokevirtual 164, 3) := by decide +kernel
theorem dX3_back_18 : decode cX3_back 18 = .ok (.iload_n 1, 1) := by decide +kernel
theorem dX3_back_19 : decode cX3_back 19 = .ok (.idiv, 1) := by decide +kernel
theorem dX3_back_20 : decode cX3_back 20 = .ok (.ireturn, 1) := by decide +kernel
theorem dX3_lossOf_0 : decode cX3_lossOf 0 = .ok (.iconst 0, 1) := by decide +kernel
theorem dX3_lossOf_1 : decode cX3_lossOf 1 = .ok (.istore_n 2, 1) := by decide +kernel
theorem dX3_lossOf_2 : decode cX3_lossOf 2 = .ok (.iconst 0, 1) := by decide +kernel
theorem dX3_lossOf_3 : decode cX3_lossOf 3 = .ok (.istore_n 3, 1) := by decide +kernel
theorem dX3_lossOf_4 : decode cX3_lossOf 4 = .ok (.iload_n 3, 1) := by decide +kernel
theorem dX3_lossOf_5 : decode cX3_lossOf 5 = .ok (.aload_n 0, 1) := by decide +kernel
theorem dX3_lossOf_6 : decode cX3_lossOf 6 = .ok (.getfield 82, 3) := by decide +kernel
theorem dX3_lossOf_9 : decode cX3_lossOf 9 = .ok (.if_icmp .ge 64, 3) := by decide +kernel
theorem dX3_lossOf_12 : decode cX3_lossOf 12 = .ok (.aload_n 0, 1) := by decide +kernel
theorem dX3_lossOf_13 : decode cX3_lossOf 13 = .ok (.getfield 9, 3) := by decide +kernel
theorem dX3_lossOf_16 : decode cX3_lossOf 16 = .ok (.iload_n 3, 1) := by decide +kernel
theorem dX3_lossOf_17 : decode cX3_lossOf 17 = .ok (.iaload, 1) := by decide +kernel
theorem dX3_lossOf_18 : decode cX3_lossOf 18 = .ok (.iload_n 1, 1) := by decide +kernel
theorem dX3_lossOf_19 : decode cX3_lossOf 19 = .ok (.if_icmp .ne 48, 3) := by decide +kernel
theorem dX3_lossOf_22 : decode cX3_lossOf 22 = .ok (.iload_n 2, 1) := by decide +kernel
theorem dX3_lossOf_23 : decode cX3_lossOf 23 = .ok (.aload_n 0, 1) := by decide +kernel
theorem dX3_lossOf_24 : decode cX3_lossOf 24 = .ok (.getfield 18, 3) := by decide +kernel
theorem dX3_lossOf_27 : decode cX3_lossOf 27 = .ok (.iload_n 3, 1) := by decide +kernel
theorem dX3_lossOf_28 : decode cX3_lossOf 28 = .ok (.iaload, 1) := by decide +kernel
theorem dX3_lossOf_29 : decode cX3_lossOf 29 = .ok (.iconst 2, 1) := by decide +kernel
theorem dX3_lossOf_30 : decode cX3_lossOf 30 = .ok (.if_icmp .ne 14, 3) := by decide +kernel
theorem dX3_lossOf_33 : decode cX3_lossOf 33 = .ok (.aload_n 0, 1) := by decide +kernel
theorem dX3_lossOf_34 : decode cX3_lossOf 34 = .ok (.getfield 36, 3) := by decide +kernel
theorem dX3_lossOf_37 : decode cX3_lossOf 37 = .ok (.iload_n 1, 1) := by decide +kernel
theorem dX3_lossOf_38 : decode cX3_lossOf 38 = .ok (.aaload, 1) := by decide +kernel
theorem dX3_lossOf_39 : decode cX3_lossOf 39 = .ok (.iconst 1, 1) := by decide +kernel
theorem dX3_lossOf_40 : decode cX3_lossOf 40 = .ok (.iaload, 1) := by decide +kernel
theorem dX3_lossOf_41 : decode cX3_lossOf 41 = .ok (.goto 24, 3) := by decide +kernel
theorem dX3_lossOf_44 : decode cX3_lossOf 44 = .ok (.aload_n 0, 1) := by decide +kernel
theorem dX3_lossOf_45 : decode cX3_lossOf 45 = .ok (.getfield 36, 3) := by decide +kernel
theorem dX3_lossOf_48 : decode cX3_lossOf 48 = .ok (.iload_n 1, 1) := by decide +kernel
theorem dX3_lossOf_49 : decode cX3_lossOf 49 = .ok (.aaload, 1) := by decide +kernel
theorem dX3_lossOf_50 : decode cX3_lossOf 50 = .ok (.iconst 0, 1) := by decide +kernel
theorem dX3_lossOf_51 : decode cX3_lossOf 51 = .ok (.iaload, 1) := by decide +kernel
theorem dX3_lossOf_52 : decode cX3_lossOf 52 = .ok (.aload_n 0, 1) := by decide +kernel
theorem dX3_lossOf_53 : decode cX3_lossOf 53 = .ok (.iload_n 3, 1) := by decide +kernel
theorem dX3_lossOf_54 : decode cX3_lossOf 54 = .ok (.invokevirtual 158, 3) := by decide +kernel
theorem dX3_lossOf_57 : decode cX3_lossOf 57 = .ok (.imul, 1) := by decide +kernel
theorem dX3_lossOf_58 : decode cX3_lossOf 58 = .ok (.aload_n 0, 1) := by decide +kernel
theorem dX3_lossOf_59 : decode cX3_lossOf 59 = .ok (.getfield 21, 3) := by decide +kernel
theorem dX3_lossOf_62 : decode cX3_lossOf 62 = .ok (.iload_n 3, 1) := by decide +kernel
theorem dX3_lossOf_63 : decode cX3_lossOf 63 = .ok (.iaload, 1) := by decide +kernel
theorem dX3_lossOf_64 : decode cX3_lossOf 64 = .ok (.iadd, 1) := by decide +kernel
theorem dX3_lossOf_65 : decode cX3_lossOf 65 = .ok (.iadd, 1) := by decide +kernel
theorem dX3_lossOf_66 : decode cX3_lossOf 66 = .ok (.istore_n 2, 1) := by decide +kernel
theorem dX3_lossOf_67 : decode cX3_lossOf 67 = .ok (.iinc 3 1, 3) := by decide +kernel
theorem dX3_lossOf_70 : decode cX3_lossOf 70 = .ok (.goto (-66), 3) := by decide +kernel
theorem dX3_lossOf_73 : decode cX3_lossOf 73 = .ok (.iload_n 2, 1) := by decide +kernel
theorem dX3_lossOf_74 : decode cX3_lossOf 74 = .ok (.ireturn, 1) := by decide +kernel
theorem dX3_sales_0 : decode cX3_sales 0 = .ok (.iconst 0, 1) := by decide +kernel
theorem dX3_sales_1 : decode cX3_sales 1 = .ok (.istore_n 1, 1) := by decide +kernel
theorem dX3_sales_2 : decode cX3_sales 2 = .ok (.iconst 1, 1) := by decide +kernel
theorem dX3_sales_3 : decode cX3_sales 3 = .ok (.istore_n 2, 1) := by decide +kernel
theorem dX3_sales_4 : decode cX3_sales 4 = .ok (.iload_n 2, 1) := by decide +kernel
theorem dX3_sales_5 : decode cX3_sales 5 = .ok (.aload_n 0, 1) := by decide +kernel
theorem dX3_sales_6 : decode cX3_sales 6 = .ok (.getfield 85, 3) := by decide +kernel
theorem dX3_sales_9 : decode cX3_sales 9 = .ok (.if_icmp .ge 78, 3) := by decide +kernel
theorem dX3_sales_12 : decode cX3_sales 12 = .ok (.aload_n 0, 1) := by decide +kernel
theorem dX3_sales_13 : decode cX3_sales 13 = .ok (.getfield 9, 3) := by decide +kernel
theorem dX3_sales_16 : decode cX3_sales 16 = .ok (.aload_n 0, 1) := by decide +kernel
theorem dX3_sales_17 : decode cX3_sales 17 = .ok (.getfield 27, 3) := by decide +kernel
theorem dX3_sales_20 : decode cX3_sales 20 = .ok (.iload_n 2, 1) := by decide +kernel
theorem dX3_sales_21 : decode cX3_sales 21 = .ok (.iconst 1, 1) := by decide +kernel
theorem dX3_sales_22 : decode cX3_sales 22 = .ok (.isub, 1) := by decide +kernel
theorem dX3_sales_23 : decode cX3_sales 23 = .ok (.iaload, 1) := by decide +kernel
theorem dX3_sales_24 : decode cX3_sales 24 = .ok (.iaload, 1) := by decide +kernel
theorem dX3_sales_25 : decode cX3_sales 25 = .ok (.istore_n 3, 1) := by decide +kernel
theorem dX3_sales_26 : decode cX3_sales 26 = .ok (.aload_n 0, 1) := by decide +kernel
theorem dX3_sales_27 : decode cX3_sales 27 = .ok (.getfield 9, 3) := by decide +kernel
theorem dX3_sales_30 : decode cX3_sales 30 = .ok (.aload_n 0, 1) := by decide +kernel
theorem dX3_sales_31 : decode cX3_sales 31 = .ok (.getfield 27, 3) := by decide +kernel
theorem dX3_sales_34 : decode cX3_sales 34 = .ok (.iload_n 2, 1) := by decide +kernel
theorem dX3_sales_35 : decode cX3_sales 35 = .ok (.iaload, 1) := by decide +kernel
theorem dX3_sales_36 : decode cX3_sales 36 = .ok (.iaload, 1) := by decide +kernel
theorem dX3_sales_37 : decode cX3_sales 37 = .ok (.istore 4, 2) := by decide +kernel
theorem dX3_sales_39 : decode cX3_sales 39 = .ok (.iload_n 3, 1) := by decide +kernel
theorem dX3_sales_40 : decode cX3_sales 40 = .ok (.iload 4, 2) := by decide +kernel
theorem dX3_sales_42 : decode cX3_sales 42 = .ok (.if_icmp .eq 39, 3) := by decide +kernel
theorem dX3_sales_45 : decode cX3_sales 45 = .ok (.aload_n 0, 1) := by decide +kernel
theorem dX3_sales_46 : decode cX3_sales 46 = .ok (.getfield 36, 3) := by decide +kernel
theorem dX3_sales_49 : decode cX3_sales 49 = .ok (.iload 4, 2) := by decide +kernel
theorem dX3_sales_51 : decode cX3_sales 51 = .ok (.aaload, 1) := by decide +kernel
theorem dX3_sales_52 : decode cX3_sales 52 = .ok (.iconst 0, 1) := by decide +kernel
theorem dX3_sales_53 : decode cX3_sales 53 = .ok (.iaload, 1) := by decide +kernel
theorem dX3_sales_54 : decode cX3_sales 54 = .ok (.aload_n 0, 1) := by decide +kernel
theorem dX3_sales_55 : decode cX3_sales 55 = .ok (.iload_n 3, 1) := by decide +kernel
theorem dX3_sales_56 : decode cX3_sales 56 = .ok (.invokevirtual 137, 3) := by decide +kernel
theorem dX3_sales_59 : decode cX3_sales 59 = .ok (.imul, 1) := by decide +kernel
theorem dX3_sales_60 : decode cX3_sales 60 = .ok (.aload_n 0, 1) := by decide +kernel
theorem dX3_sales_61 : decode cX3_sales 61 = .ok (.getfield 36, 3) := by decide +kernel
theorem dX3_sales_64 : decode cX3_sales 64 = .ok (.iload_n 3, 1) := by decide +kernel
theorem dX3_sales_65 : decode cX3_sales 65 = .ok (.aaload, 1) := by decide +kernel
theorem dX3_sales_66 : decode cX3_sales 66 = .ok (.iconst 0, 1) := by decide +kernel
theorem dX3_sales_67 : decode cX3_sales 67 = .ok (.iaload, 1) := by decide +kernel
theorem dX3_sales_68 : decode cX3_sales 68 = .ok (.aload_n 0, 1) := by decide +kernel
theorem dX3_sales_69 : decode cX3_sales 69 = .ok (.iload 4, 2) := by decide +kernel
theorem dX3_sales_71 : decode cX3_sales 71 = .ok (.invokevirtual 137, 3) := by decide +kernel
theorem dX3_sales_74 : decode cX3_sales 74 = .ok (.imul, 1) := by decide +kernel
theorem dX3_sales_75 : decode cX3_sales 75 = .ok (.if_icmp .le 6, 3) := by decide +kernel
theorem dX3_sales_78 : decode cX3_sales 78 = .ok (.iinc 1 1, 3) := by decide +kernel
theorem dX3_sales_81 : decode cX3_sales 81 = .ok (.iinc 2 1, 3) := by decide +kernel
theorem dX3_sales_84 : decode cX3_sales 84 = .ok (.goto (-80), 3) := by decide +kernel
theorem dX3_sales_87 : decode cX3_sales 87 = .ok (.iload_n 1, 1) := by decide +kernel
theorem dX3_sales_88 : decode cX3_sales 88 = .ok (.ireturn, 1) := by decide +kernel
theorem dX4_init_0 : decode cX4_init 0 = .ok (.aload_n 0, 1) := by decide +kernel
theorem dX4_init_1 : decode cX4_init 1 = .ok (.iload_n 1, 1) := by decide +kernel
theorem dX4_init_2 : decode cX4_init 2 = .ok (.iload_n 2, 1) := by decide +kernel
theorem dX4_init_3 : decode cX4_init 3 = .ok (.invokespecial 1, 3) := by decide +kernel
theorem dX4_init_6 : decode cX4_init 6 = .ok (.return_, 1) := by decide +kernel
theorem dX4_kind_0 : decode cX4_kind 0 = .ok (.iconst 3, 1) := by decide +kernel
theorem dX4_kind_1 : decode cX4_kind 1 = .ok (.ireturn, 1) := by decide +kernel
theorem dX4_asks_0 : decode cX4_asks 0 = .ok (.iload_n 1, 1) := by decide +kernel
theorem dX4_asks_1 : decode cX4_asks 1 = .ok (.aload_n 0, 1) := by decide +kernel
theorem dX4_asks_2 : decode cX4_asks 2 = .ok (.getfield 7, 3) := by decide +kernel
theorem dX4_asks_5 : decode cX4_asks 5 = .ok (.iload_n 2, 1) := by decide +kernel
theorem dX4_asks_6 : decode cX4_asks 6 = .ok (.imul, 1) := by decide +kernel
theorem dX4_asks_7 : decode cX4_asks 7 = .ok (.iadd, 1) := by decide +kernel
theorem dX4_asks_8 : decode cX4_asks 8 = .ok (.ireturn, 1) := by decide +kernel
theorem dX4_joins_0 : decode cX4_joins 0 = .ok (.aload_n 0, 1) := by decide +kernel
theorem dX4_joins_1 : decode cX4_joins 1 = .ok (.bipush 50, 2) := by decide +kernel
theorem dX4_joins_3 : decode cX4_joins 3 = .ok (.invokevirtual 13, 3) := by decide +kernel
theorem dX4_joins_6 : decode cX4_joins 6 = .ok (.aload_n 0, 1) := by decide +kernel
theorem dX4_joins_7 : decode cX4_joins 7 = .ok (.iload_n 1, 1) := by decide +kernel
theorem dX4_joins_8 : decode cX4_joins 8 = .ok (.invokespecial 17, 3) := by decide +kernel
theorem dX4_joins_11 : decode cX4_joins 11 = .ok (.ineg, 1) := by decide +kernel
theorem dX4_joins_12 : decode cX4_joins 12 = .ok (.ireturn, 1) := by decide +kernel
theorem dX4_takes_0 : decode cX4_takes 0 = .ok (.aload_n 0, 1) := by decide +kernel
theorem dX4_takes_1 : decode cX4_takes 1 = .ok (.bipush 51, 2) := by decide +kernel
theorem dX4_takes_3 : decode cX4_takes 3 = .ok (.invokevirtual 13, 3) := by decide +kernel
theorem dX4_takes_6 : decode cX4_takes 6 = .ok (.aload_n 0, 1) := by decide +kernel
theorem dX4_takes_7 : decode cX4_takes 7 = .ok (.iload_n 1, 1) := by decide +kernel
theorem dX4_takes_8 : decode cX4_takes 8 = .ok (.iconst 1, 1) := by decide +kernel
theorem dX4_takes_9 : decode cX4_takes 9 = .ok (.iadd, 1) := by decide +kernel
theorem dX4_takes_10 : decode cX4_takes 10 = .ok (.invokespecial 21, 3) := by decide +kernel
theorem dX4_takes_13 : decode cX4_takes 13 = .ok (.ireturn, 1) := by decide +kernel
theorem dX5_init_0 : decode cX5_init 0 = .ok (.aload_n 0, 1) := by decide +kernel
theorem dX5_init_1 : decode cX5_init 1 = .ok (.invokespecial 1, 3) := by decide +kernel
theorem dX5_init_4 : decode cX5_init 4 = .ok (.aload_n 0, 1) := by decide +kernel
theorem dX5_init_5 : decode cX5_init 5 = .ok (.bipush 20, 2) := by decide +kernel
theorem dX5_init_7 : decode cX5_init 7 = .ok (.newarray .int, 2) := by decide +kernel
theorem dX5_init_9 : decode cX5_init 9 = .ok (.putfield 9, 3) := by decide +kernel
theorem dX5_init_12 : decode cX5_init 12 = .ok (.aload_n 0, 1) := by decide +kernel
theorem dX5_init_13 : decode cX5_init 13 = .ok (.iload_n 1, 1) := by decide +kernel
theorem dX5_init_14 : decode cX5_init 14 = .ok (.putfield 13, 3) := by decide +kernel
theorem dX5_init_17 : decode cX5_init 17 = .ok (.aload_n 0, 1) := by decide +kernel
theorem dX5_init_18 : decode cX5_init 18 = .ok (.iload_n 2, 1) := by decide +kernel
theorem dX5_init_19 : decode cX5_init 19 = .ok (.putfield 17, 3) := by decide +kernel
theorem dX5_init_22 : decode cX5_init 22 = .ok (.return_, 1) := by decide +kernel
theorem dX5_kind_0 : decode cX5_kind 0 = .ok (.iconst 0, 1) := by decide +kernel
theorem dX5_kind_1 : decode cX5_kind 1 = .ok (.ireturn, 1) := by decide +kernel
theorem dX5_asks_0 : decode cX5_asks 0 = .ok (.iload_n 1, 1) := by decide +kernel
theorem dX5_asks_1 : decode cX5_asks 1 = .ok (.ireturn, 1) := by decide +kernel
theorem dX5_due_0 : decode cX5_due 0 = .ok (.iload_n 1, 1) := by decide +kernel
theorem dX5_due_1 : decode cX5_due 1 = .ok (.ireturn, 1) := by decide +kernel
theorem dX5_aheadOfPaying_0 : decode cX5_aheadOfPaying 0 = .ok (.iload_n 2, 1) := by decide +kernel
theorem dX5_aheadOfPaying_1 : decode cX5_aheadOfPaying 1 = .ok (.ireturn, 1) := by decide +kernel
theorem dX5_turnsAway_0 : decode cX5_turnsAway 0 = .ok (.iconst 0, 1) := by decide +kernel
theorem dX5_turnsAway_1 : decode cX5_turnsAway 1 = .ok (.ireturn, 1) := by decide +kernel
theorem dX5_lineTold_0 : decode cX5_lineTold 0 = .ok (.iconst (-1), 1) := by decide +kernel
theorem dX5_lineTold_1 : decode cX5_lineTold 1 = .ok (.ireturn, 1) := by decide +kernel
theorem dX5_next_0 : decode cX5_next 0 = .ok (.iload_n 1, 1) := by decide +kernel
theorem dX5_next_1 : decode cX5_next 1 = .ok (.ifCond .lt 7, 3) := by decide +kernel
theorem dX5_next_4 : decode cX5_next 4 = .ok (.iload_n 2, 1) := by decide +kernel
theorem dX5_next_5 : decode cX5_next 5 = .ok (.ifCond .ge 9, 3) := by decide +kernel
theorem dX5_next_8 : decode cX5_next 8 = .ok (.iload_n 1, 1) := by decide +kernel
theorem dX5_next_9 : decode cX5_next 9 = .ok (.iload_n 2, 1) := by decide +kernel
theorem dX5_next_10 : decode cX5_next 10 = .ok (.invokestatic 20, 3) := by decide +kernel
theorem dX5_next_13 : decode cX5_next 13 = .ok (.ireturn, 1) := by decide +kernel
theorem dX5_next_14 : decode cX5_next 14 = .ok (.iload_n 1, 1) := by decide +kernel
theorem dX5_next_15 : decode cX5_next 15 = .ok (.iload_n 2, 1) := by decide +kernel
theorem dX5_next_16 : decode cX5_next 16 = .ok (.invokestatic 26, 3) := by decide +kernel
theorem dX5_next_19 : decode cX5_next 19 = .ok (.ireturn, 1) := by decide +kernel
theorem dX5_began_0 : decode cX5_began 0 = .ok (.aload_n 0, 1) := by decide +kernel
theorem dX5_began_1 : decode cX5_began 1 = .ok (.getfield 29, 3) := by decide +kernel
theorem dX5_began_4 : decode cX5_began 4 = .ok (.ifCond .lt 22, 3) := by decide +kernel
theorem dX5_began_7 : decode cX5_began 7 = .ok (.aload_n 0, 1) := by decide +kernel
theorem dX5_began_8 : decode cX5_began 8 = .ok (.getfield 29, 3) := by decide +kernel
theorem dX5_began_11 : decode cX5_began 11 = .ok (.bipush 20, 2) := by decide +kernel
theorem dX5_began_13 : decode cX5_began 13 = .ok (.if_icmp .ge 13, 3) := by decide +kernel
theorem dX5_began_16 : decode cX5_began 16 = .ok (.aload_n 0, 1) := by decide +kernel
theorem dX5_began_17 : decode cX5_began 17 = .ok (.getfield 9, 3) := by decide +kernel
theorem dX5_began_20 : decode cX5_began 20 = .ok (.aload_n 0, 1) := by decide +kernel
theorem dX5_began_21 : decode cX5_began 21 = .ok (.getfield 29, 3) := by decide +kernel
theorem dX5_began_24 : decode cX5_began 24 = .ok (.iload_n 1, 1) := by decide +kernel
theorem dX5_began_25 : decode cX5_began 25 = .ok (.iastore, 1) := by decide +kernel
theorem dX5_began_26 : decode cX5_began 26 = .ok (.aload_n 0, 1) := by decide +kernel
theorem dX5_began_27 : decode cX5_began 27 = .ok (.dup, 1) := by decide +kernel
theorem dX5_began_28 : decode cX5_began 28 = .ok (.getfield 29, 3) := by decide +kernel
theorem dX5_began_31 : decode cX5_began 31 = .ok (.iconst 1, 1) := by decide +kernel
theorem dX5_began_32 : decode cX5_began 32 = .ok (.iadd, 1) := by decide +kernel
theorem dX5_began_33 : decode cX5_began 33 = .ok (.putfield 29, 3) := by decide +kernel
theorem dX5_began_36 : decode cX5_began 36 = .ok (.return_, 1) := by decide +kernel
theorem dX5_joins_0 : decode cX5_joins 0 = .ok (.aload_n 0, 1) := by decide +kernel
theorem dX5_joins_1 : decode cX5_joins 1 = .ok (.bipush 10, 2) := by decide +kernel
theorem dX5_joins_3 : decode cX5_joins 3 = .ok (.invokevirtual 32, 3) := by decide +kernel
theorem dX5_joins_6 : decode cX5_joins 6 = .ok (.iload_n 1, 1) := by decide +kernel
theorem dX5_joins_7 : decode cX5_joins 7 = .ok (.aload_n 0, 1) := by decide +kernel
theorem dX5_joins_8 : decode cX5_joins 8 = .ok (.getfield 13, 3) := by decide +kernel
theorem dX5_joins_11 : decode cX5_joins 11 = .ok (.iadd, 1) := by decide +kernel
theorem dX5_joins_12 : decode cX5_joins 12 = .ok (.ireturn, 1) := by decide +kernel
theorem dX5_takes_0 : decode cX5_takes 0 = .ok (.aload_n 0, 1) := by decide +kernel
theorem dX5_takes_1 : decode cX5_takes 1 = .ok (.bipush 11, 2) := by decide +kernel
theorem dX5_takes_3 : decode cX5_takes 3 = .ok (.invokevirtual 32, 3) := by decide +kernel
theorem dX5_takes_6 : decode cX5_takes 6 = .ok (.aload_n 0, 1) := by decide +kernel
theorem dX5_takes_7 : decode cX5_takes 7 = .ok (.iload_n 1, 1) := by decide +kernel
theorem dX5_takes_8 : decode cX5_takes 8 = .ok (.invokevirtual 36, 3) := by decide +kernel
theorem dX5_takes_11 : decode cX5_takes 11 = .ok (.aload_n 0, 1) := by decide +kernel
theorem dX5_takes_12 : decode cX5_takes 12 = .ok (.getfield 17, 3) := by decide +kernel
theorem dX5_takes_15 : decode cX5_takes 15 = .ok (.isub, 1) := by decide +kernel
theorem dX5_takes_16 : decode cX5_takes 16 = .ok (.ireturn, 1) := by decide +kernel
theorem dX5_tells_0 : decode cX5_tells 0 = .ok (.aload_n 0, 1) := by decide +kernel
theorem dX5_tells_1 : decode cX5_tells 1 = .ok (.bipush 12, 2) := by decide +kernel
theorem dX5_tells_3 : decode cX5_tells 3 = .ok (.invokevirtual 32, 3) := by decide +kernel
theorem dX5_tells_6 : decode cX5_tells 6 = .ok (.aload_n 0, 1) := by decide +kernel
theorem dX5_tells_7 : decode cX5_tells 7 = .ok (.iload_n 1, 1) := by decide +kernel
theorem dX5_tells_8 : decode cX5_tells 8 = .ok (.invokevirtual 40, 3) := by decide +kernel
theorem dX5_tells_11 : decode cX5_tells 11 = .ok (.iconst 2, 1) := by decide +kernel
theorem dX5_tells_12 : decode cX5_tells 12 = .ok (.imul, 1) := by decide +kernel
theorem dX5_tells_13 : decode cX5_tells 13 = .ok (.ireturn, 1) := by decide +kernel
theorem dX6_init_0 : decode cX6_init 0 = .ok (.aload_n 0, 1) := by decide +kernel
theorem dX6_init_1 : decode cX6_init 1 = .ok (.iload_n 1, 1) := by decide +kernel
theorem dX6_init_2 : decode cX6_init 2 = .ok (.iload_n 2, 1) := by decide +kernel
theorem dX6_init_3 : decode cX6_init 3 = .ok (.invokespecial 1, 3) := by decide +kernel
theorem dX6_init_6 : decode cX6_init 6 = .ok (.return_, 1) := by decide +kernel
theorem dX6_kind_0 : decode cX6_kind 0 = .ok (.iconst 4, 1) := by decide +kernel
theorem dX6_kind_1 : decode cX6_kind 1 = .ok (.ireturn, 1) := by decide +kernel
theorem dX6_due_0 : decode cX6_due 0 = .ok (.iload_n 2, 1) := by decide +kernel
theorem dX6_due_1 : decode cX6_due 1 = .ok (.iload_n 1, 1) := by decide +kernel
theorem dX6_due_2 : decode cX6_due 2 = .ok (.if_icmp .ge 7, 3) := by decide +kernel
theorem dX6_due_5 : decode cX6_due 5 = .ok (.iconst 0, 1) := by decide +kernel
theorem dX6_due_6 : decode cX6_due 6 = .ok (.goto 4, 3) := by decide +kernel
theorem dX6_due_9 : decode cX6_due 9 = .ok (.iload_n 1, 1) := by decide +kernel
theorem dX6_due_10 : decode cX6_due 10 = .ok (.ireturn, 1) := by decide +kernel
theorem dX6_tells_0 : decode cX6_tells 0 = .ok (.aload_n 0, 1) := by decide +kernel
theorem dX6_tells_1 : decode cX6_tells 1 = .ok (.bipush 60, 2) := by decide +kernel
theorem dX6_tells_3 : decode cX6_tells 3 = .ok (.invokevirtual 7, 3) := by decide +kernel
theorem dX6_tells_6 : decode cX6_tells 6 = .ok (.aload_n 0, 1) := by decide +kernel
theorem dX6_tells_7 : decode cX6_tells 7 = .ok (.iload_n 1, 1) := by decide +kernel
theorem dX6_tells_8 : decode cX6_tells 8 = .ok (.aload_n 0, 1) := by decide +kernel
theorem dX6_tells_9 : decode cX6_tells 9 = .ok (.getfield 13, 3) := by decide +kernel
theorem dX6_tells_12 : decode cX6_tells 12 = .ok (.isub, 1) := by decide +kernel
theorem dX6_tells_13 : decode cX6_tells 13 = .ok (.invokespecial 17, 3) := by decide +kernel
theorem dX6_tells_16 : decode cX6_tells 16 = .ok (.ireturn, 1) := by decide +kernel
theorem dX7_init_0 : decode cX7_init 0 = .ok (.aload_n 0, 1) := by decide +kernel
theorem dX7_init_1 : decode cX7_init 1 = .ok (.iload_n 1, 1) := by decide +kernel
theorem dX7_init_2 : decode cX7_init 2 = .ok (.iload_n 2, 1) := by decide +kernel
theorem dX7_init_3 : decode cX7_init 3 = .ok (.invokespecial 1, 3) := by decide +kernel
theorem dX7_init_6 : decode cX7_init 6 = .ok (.return_, 1) := by decide +kernel
theorem dX7_kind_0 : decode cX7_kind 0 = .ok (.iconst 2, 1) := by decide +kernel
theorem dX7_kind_1 : decode cX7_kind 1 = .ok (.ireturn, 1) := by decide +kernel
theorem dX7_aheadOfPaying_0 : decode cX7_aheadOfPaying 0 = .ok (.iload_n 1, 1) := by decide +kernel
theorem dX7_aheadOfPaying_1 : decode cX7_aheadOfPaying 1 = .ok (.ireturn, 1) := by decide +kernel
theorem dX7_next_0 : decode cX7_next 0 = .ok (.iload_n 1, 1) := by decide +kernel
theorem dX7_next_1 : decode cX7_next 1 = .ok (.ifCond .lt 19, 3) := by decide +kernel
theorem dX7_next_4 : decode cX7_next 4 = .ok (.iload_n 3, 1) := by decide +kernel
theorem dX7_next_5 : decode cX7_next 5 = .ok (.aload_n 0, 1) := by decide +kernel
theorem dX7_next_6 : decode cX7_next 6 = .ok (.getfield 7, 3) := by decide +kernel
theorem dX7_next_9 : decode cX7_next 9 = .ok (.if_icmp .lt 7, 3) := by decide +kernel
theorem dX7_next_12 : decode cX7_next 12 = .ok (.iload_n 2, 1) := by decide +kernel
theorem dX7_next_13 : decode cX7_next 13 = .ok (.ifCond .ge 7, 3) := by decide +kernel
theorem dX7_next_16 : decode cX7_next 16 = .ok (.iload_n 1, 1) := by decide +kernel
theorem dX7_next_17 : decode cX7_next 17 = .ok (.goto 4, 3) := by decide +kernel
theorem dX7_next_20 : decode cX7_next 20 = .ok (.iload_n 2, 1) := by decide +kernel
theorem dX7_next_21 : decode cX7_next 21 = .ok (.ireturn, 1) := by decide +kernel
theorem dX7_joins_0 : decode cX7_joins 0 = .ok (.aload_n 0, 1) := by decide +kernel
theorem dX7_joins_1 : decode cX7_joins 1 = .ok (.bipush 30, 2) := by decide +kernel
theorem dX7_joins_3 : decode cX7_joins 3 = .ok (.invokevirtual 13, 3) := by decide +kernel
theorem dX7_joins_6 : decode cX7_joins 6 = .ok (.aload_n 0, 1) := by decide +kernel
theorem dX7_joins_7 : decode cX7_joins 7 = .ok (.iload_n 1, 1) := by decide +kernel
theorem dX7_joins_8 : decode cX7_joins 8 = .ok (.iconst 3, 1) := by decide +kernel
theorem dX7_joins_9 : decode cX7_joins 9 = .ok (.imul, 1) := by decide +kernel
theorem dX7_joins_10 : decode cX7_joins 10 = .ok (.invokespecial 17, 3) := by decide +kernel
theorem dX7_joins_13 : decode cX7_joins 13 = .ok (.ireturn, 1) := by decide +kernel
theorem dX8_init_0 : decode cX8_init 0 = .ok (.aload_n 0, 1) := by decide +kernel
theorem dX8_init_1 : decode cX8_init 1 = .ok (.invokespecial 3, 3) := by decide +kernel
theorem dX8_init_4 : decode cX8_init 4 = .ok (.aload_n 0, 1) := by decide +kernel
theorem dX8_init_5 : decode cX8_init 5 = .ok (.iconst (-1), 1) := by decide +kernel
theorem dX8_init_6 : decode cX8_init 6 = .ok (.putfield 11, 3) := by decide +kernel
theorem dX8_init_9 : decode cX8_init 9 = .ok (.aload_n 0, 1) := by decide +kernel
theorem dX8_init_10 : decode cX8_init 10 = .ok (.bipush 60, 2) := by decide +kernel
theorem dX8_init_12 : decode cX8_init 12 = .ok (.newarray .long, 2) := by decide +kernel
theorem dX8_init_14 : decode cX8_init 14 = .ok (.putfield 15, 3) := by decide +kernel
theorem dX8_init_17 : decode cX8_init 17 = .ok (.return_, 1) := by decide +kernel
theorem dX8_become_0 : decode cX8_become 0 = .ok (.aload_n 0, 1) := by decide +kernel
theorem dX8_become_1 : decode cX8_become 1 = .ok (.iload_n 1, 1) := by decide +kernel
theorem dX8_become_2 : decode cX8_become 2 = .ok (.putfield 11, 3) := by decide +kernel
theorem dX8_become_5 : decode cX8_become 5 = .ok (.aload_n 0, 1) := by decide +kernel
theorem dX8_become_6 : decode cX8_become 6 = .ok (.iload_n 2, 1) := by decide +kernel
theorem dX8_become_7 : decode cX8_become 7 = .ok (.putfield 19, 3) := by decide +kernel
theorem dX8_become_10 : decode cX8_become 10 = .ok (.aload_n 0, 1) := by decide +kernel
theorem dX8_become_11 : decode cX8_become 11 = .ok (.getfield 15, 3) := by decide +kernel
theorem dX8_become_14 : decode cX8_become 14 = .ok (.lconst 0, 1) := by decide +kernel
theorem dX8_become_15 : decode cX8_become 15 = .ok (.invokestatic 22, 3) := by decide +kernel
theorem dX8_become_18 : decode cX8_become 18 = .ok (.return_, 1) := by decide +kernel
theorem dX8_lacks_0 : decode cX8_lacks 0 = .ok (.lload_n 1, 1) := by decide +kernel
theorem dX8_lacks_1 : decode cX8_lacks 1 = .ok (.lconst 0, 1) := by decide +kernel
theorem dX8_lacks_2 : decode cX8_lacks 2 = .ok (.lcmp, 1) := by decide +kernel
theorem dX8_lacks_3 : decode cX8_lacks 3 = .ok (.ifCond .lt 13, 3) := by decide +kernel
theorem dX8_lacks_6 : decode cX8_lacks 6 = .ok (.lload_n 1, 1) := by decide +kernel
theorem dX8_lacks_7 : decode cX8_lacks 7 = .ok (.aload_n 0, 1) := by decide +kernel
theorem dX8_lacks_8 : decode cX8_lacks 8 = .ok (.getfield 19, 3) := by decide +kernel
theorem dX8_lacks_11 : decode cX8_lacks 11 = .ok (.i2l, 1) := by decide +kernel
theorem dX8_lacks_12 : decode cX8_lacks 12 = .ok (.lcmp, 1) := by decide +kernel
theorem dX8_lacks_13 : decode cX8_lacks 13 = .ok (.ifCond .lt 7, 3) := by decide +kernel
theorem dX8_lacks_16 : decode cX8_lacks 16 = .ok (.iconst 1, 1) := by decide +kernel
theorem dX8_lacks_17 : decode cX8_lacks 17 = .ok (.goto 4, 3) := by decide +kernel
theorem dX8_lacks_20 : decode cX8_lacks 20 = .ok (.iconst 0, 1) := by decide +kernel
theorem dX8_lacks_21 : decode cX8_lacks 21 = .ok (.ireturn, 1) := by decide +kernel
theorem dX8_fitted_0 : decode cX8_fitted 0 = .ok (.aload_n 0, 1) := by decide +kernel
theorem dX8_fitted_1 : decode cX8_fitted 1 = .ok (.getfield 11, 3) := by decide +kernel
theorem dX8_fitted_4 : decode cX8_fitted 4 = .ok (.tableswitch 62 0 4 #[36, 41, 46, 62, 50], 36) := by decide +kernel
theorem dX8_fitted_40 : decode cX8_fitted 40 = .ok (.lload_n 1, 1) := by decide +kernel
theorem dX8_fitted_41 : decode cX8_fitted 41 = .ok (.l2i, 1) := by decide +kernel
theorem dX8_fitted_42 : decode cX8_fitted 42 = .ok (.i2b, 1) := by decide +kernel
theorem dX8_fitted_43 : decode cX8_fitted 43 = .ok (.i2l, 1) := by decide +kernel
theorem dX8_fitted_44 : decode cX8_fitted 44 = .ok (.lreturn, 1) := by decide +kernel
theorem dX8_fitted_45 : decode cX8_fitted 45 = .ok (.lload_n 1, 1) := by decide +kernel
theorem dX8_fitted_46 : decode cX8_fitted 46 = .ok (.l2i, 1) := by decide +kernel
theorem dX8_fitted_47 : decode cX8_fitted 47 = .ok (.i2s, 1) := by decide +kernel
theorem dX8_fitted_48 : decode cX8_fitted 48 = .ok (.i2l, 1) := by decide +kernel
theorem dX8_fitted_49 : decode cX8_fitted 49 = .ok (.lreturn, 1) := by decide +kernel
theorem dX8_fitted_50 : decode cX8_fitted 50 = .ok (.lload_n 1, 1) := by decide +kernel
theorem dX8_fitted_51 : decode cX8_fitted 51 = .ok (.l2i, 1) := by decide +kernel
theorem dX8_fitted_52 : decode cX8_fitted 52 = .ok (.i2l, 1) := by decide +kernel
theorem dX8_fitted_53 : decode cX8_fitted 53 = .ok (.lreturn, 1) := by decide +kernel
theorem dX8_fitted_54 : decode cX8_fitted 54 = .ok (.lload_n 1, 1) := by decide +kernel
theorem dX8_fitted_55 : decode cX8_fitted 55 = .ok (.lconst 0, 1) := by decide +kernel
theorem dX8_fitted_56 : decode cX8_fitted 56 = .ok (.lcmp, 1) := by decide +kernel
theorem dX8_fitted_57 : decode cX8_fitted 57 = .ok (.ifCond .eq 7, 3) := by decide +kernel
theorem dX8_fitted_60 : decode cX8_fitted 60 = .ok (.lconst 1, 1) := by decide +kernel
theorem dX8_fitted_61 : decode cX8_fitted 61 = .ok (.goto 4, 3) := by decide +kernel
theorem dX8_fitted_64 : decode cX8_fitted 64 = .ok (.lconst 0, 1) := by decide +kernel
theorem dX8_fitted_65 : decode cX8_fitted 65 = .ok (.lreturn, 1) := by decide +kernel
theorem dX8_fitted_66 : decode cX8_fitted 66 = .ok (.lload_n 1, 1) := by decide +kernel
theorem dX8_fitted_67 : decode cX8_fitted 67 = .ok (.lreturn, 1) := by decide +kernel
theorem dX9_init_0 : decode cX9_init 0 = .ok (.aload_n 0, 1) := by decide +kernel
theorem dX9_init_1 : decode cX9_init 1 = .ok (.iload_n 1, 1) := by decide +kernel
theorem dX9_init_2 : decode cX9_init 2 = .ok (.iload_n 2, 1) := by decide +kernel
theorem dX9_init_3 : decode cX9_init 3 = .ok (.invokespecial 1, 3) := by decide +kernel
theorem dX9_init_6 : decode cX9_init 6 = .ok (.aload_n 0, 1) := by decide +kernel
theorem dX9_init_7 : decode cX9_init 7 = .ok (.bipush 10, 2) := by decide +kernel
theorem dX9_init_9 : decode cX9_init 9 = .ok (.newarray .int, 2) := by decide +kernel
theorem dX9_init_11 : decode cX9_init 11 = .ok (.putfield 9, 3) := by decide +kernel
theorem dX9_init_14 : decode cX9_init 14 = .ok (.aload_n 0, 1) := by decide +kernel
theorem dX9_init_15 : decode cX9_init 15 = .ok (.getfield 9, 3) := by decide +kernel
theorem dX9_init_18 : decode cX9_init 18 = .ok (.iconst (-1), 1) := by decide +kernel
theorem dX9_init_19 : decode cX9_init 19 = .ok (.invokestatic 13, 3) := by decide +kernel
theorem dX9_init_22 : decode cX9_init 22 = .ok (.return_, 1) := by decide +kernel
theorem dX9_kind_0 : decode cX9_kind 0 = .ok (.bipush 6, 2) := by decide +kernel
theorem dX9_kind_2 : decode cX9_kind 2 = .ok (.ireturn, 1) := by decide +kernel
theorem dX9_lineTold_0 : decode cX9_lineTold 0 = .ok (.iload_n 1, 1) := by decide +kernel
theorem dX9_lineTold_1 : decode cX9_lineTold 1 = .ok (.ifCond .lt 9, 3) := by decide +kernel
theorem dX9_lineTold_4 : decode cX9_lineTold 4 = .ok (.iload_n 1, 1) := by decide +kernel
theorem dX9_lineTold_5 : decode cX9_lineTold 5 = .ok (.bipush 10, 2) := by decide +kernel
theorem dX9_lineTold_7 : decode cX9_lineTold 7 = .ok (.if_icmp .lt 7, 3) := by decide +kernel
theorem dX9_lineTold_10 : decode cX9_lineTold 10 = .ok (.iconst (-1), 1) := by decide +kernel
theorem dX9_lineTold_11 : decode cX9_lineTold 11 = .ok (.goto 9, 3) := by decide +kernel
theorem dX9_lineTold_14 : decode cX9_lineTold 14 = .ok (.aload_n 0, 1) := by decide +kernel
theorem dX9_lineTold_15 : decode cX9_lineTold 15 = .ok (.getfield 9, 3) := by decide +kernel
theorem dX9_lineTold_18 : decode cX9_lineTold 18 = .ok (.iload_n 1, 1) := by decide +kernel
theorem dX9_lineTold_19 : decode cX9_lineTold 19 = .ok (.iaload, 1) := by decide +kernel
theorem dX9_lineTold_20 : decode cX9_lineTold 20 = .ok (.ireturn, 1) := by decide +kernel
theorem dX9_takes_0 : decode cX9_takes 0 = .ok (.aload_n 0, 1) := by decide +kernel
theorem dX9_takes_1 : decode cX9_takes 1 = .ok (.bipush 70, 2) := by decide +kernel
theorem dX9_takes_3 : decode cX9_takes 3 = .ok (.invokevirtual 19, 3) := by decide +kernel
theorem dX9_takes_6 : decode cX9_takes 6 = .ok (.aload_n 0, 1) := by decide +kernel
theorem dX9_takes_7 : decode cX9_takes 7 = .ok (.iload_n 1, 1) := by decide +kernel
theorem dX9_takes_8 : decode cX9_takes 8 = .ok (.invokespecial 23, 3) := by decide +kernel
theorem dX9_takes_11 : decode cX9_takes 11 = .ok (.aload_n 0, 1) := by decide +kernel
theorem dX9_takes_12 : decode cX9_takes 12 = .ok (.iconst 2, 1) := by decide +kernel
theorem dX9_takes_13 : decode cX9_takes 13 = .ok (.invokespecial 27, 3) := by decide +kernel
theorem dX9_takes_16 : decode cX9_takes 16 = .ok (.iadd, 1) := by decide +kernel
theorem dX9_takes_17 : decode cX9_takes 17 = .ok (.ireturn, 1) := by decide +kernel
theorem dX9_joins_0 : decode cX9_joins 0 = .ok (.aload_n 0, 1) := by decide +kernel
theorem dX9_joins_1 : decode cX9_joins 1 = .ok (.bipush 71, 2) := by decide +kernel
theorem dX9_joins_3 : decode cX9_joins 3 = .ok (.invokevirtual 19, 3) := by decide +kernel
theorem dX9_joins_6 : decode cX9_joins 6 = .ok (.aload_n 0, 1) := by decide +kernel
theorem dX9_joins_7 : decode cX9_joins 7 = .ok (.iload_n 1, 1) := by decide +kernel
theorem dX9_joins_8 : decode cX9_joins 8 = .ok (.invokespecial 27, 3) := by decide +kernel
theorem dX9_joins_11 : decode cX9_joins 11 = .ok (.aload_n 0, 1) := by decide +kernel
theorem dX9_joins_12 : decode cX9_joins 12 = .ok (.getfield 30, 3) := by decide +kernel
theorem dX9_joins_15 : decode cX9_joins 15 = .ok (.ixor, 1) := by decide +kernel
theorem dX9_joins_16 : decode cX9_joins 16 = .ok (.ireturn, 1) := by decide +kernel
theorem dX10_init_0 : decode cX10_init 0 = .ok (.aload_n 0, 1) := by decide +kernel
theorem dX10_init_1 : decode cX10_init 1 = .ok (.invokespecial 3, 3) := by decide +kernel
theorem dX10_init_4 : decode cX10_init 4 = .ok (.aload_n 0, 1) := by decide +kernel
theorem dX10_init_5 : decode cX10_init 5 = .ok (.bipush 30, 2) := by decide +kernel
theorem dX10_init_7 : decode cX10_init 7 = .ok (.putfield 11, 3) := by decide +kernel
theorem dX10_init_10 : decode cX10_init 10 = .ok (.aload_n 0, 1) := by decide +kernel
theorem dX10_init_11 : decode cX10_init 11 = .ok (.bipush 8, 2) := by decide +kernel
theorem dX10_init_13 : decode cX10_init 13 = .ok (.newarray .int, 2) := by decide +kernel
theorem dX10_init_15 : decode cX10_init 15 = .ok (.putfield 15, 3) := by decide +kernel
theorem dX10_init_18 : decode cX10_init 18 = .ok (.aload_n 0, 1) := by decide +kernel
theorem dX10_init_19 : decode cX10_init 19 = .ok (.bipush 8, 2) := by decide +kernel
theorem dX10_init_21 : decode cX10_init 21 = .ok (.newarray .int, 2) := by decide +kernel
theorem dX10_init_23 : decode cX10_init 23 = .ok (.putfield 19, 3) := by decide +kernel
theorem dX10_init_26 : decode cX10_init 26 = .ok (.aload_n 0, 1) := by decide +kernel
theorem dX10_init_27 : decode cX10_init 27 = .ok (.bipush 100, 2) := by decide +kernel
theorem dX10_init_29 : decode cX10_init 29 = .ok (.newarray .int, 2) := by decide +kernel
theorem dX10_init_31 : decode cX10_init 31 = .ok (.putfield 22, 3) := by decide +kernel
theorem dX10_init_34 : decode cX10_init 34 = .ok (.return_, 1) := by decide +kernel
theorem dX10_parse_0 : decode cX10_parse 0 = .ok (.aload_n 0, 1) := by decide +kernel
theorem dX10_parse_1 : decode cX10_parse 1 = .ok (.iconst 0, 1) := by decide +kernel
theorem dX10_parse_2 : decode cX10_parse 2 = .ok (.putfield 25, 3) := by decide +kernel
theorem dX10_parse_5 : decode cX10_parse 5 = .ok (.aload_n 0, 1) := by decide +kernel
theorem dX10_parse_6 : decode cX10_parse 6 = .ok (.iconst 0, 1) := by decide +kernel
theorem dX10_parse_7 : decode cX10_parse 7 = .ok (.putfield 28, 3) := by decide +kernel
theorem dX10_parse_10 : decode cX10_parse 10 = .ok (.aload_n 0, 1) := by decide +kernel
theorem dX10_parse_11 : decode cX10_parse 11 = .ok (.bipush 30, 2) := by decide +kernel
theorem dX10_parse_13 : decode cX10_parse 13 = .ok (.putfield 11, 3) := by decide +kernel
theorem dX10_parse_16 : decode cX10_parse 16 = .ok (.aload_n 0, 1) := by decide +kernel
theorem dX10_parse_17 : decode cX10_parse 17 = .ok (.iconst 0, 1) := by decide +kernel
theorem dX10_parse_18 : decode cX10_parse 18 = .ok (.putfield 31, 3) := by decide +kernel
theorem dX10_parse_21 : decode cX10_parse 21 = .ok (.aload_n 0, 1) := by decide +kernel
theorem dX10_parse_22 : decode cX10_parse 22 = .ok (.iconst 0, 1) := by decide +kernel
theorem dX10_parse_23 : decode cX10_parse 23 = .ok (.putfield 34, 3) := by decide +kernel
theorem dX10_parse_26 : decode cX10_parse 26 = .ok (.aload_n 0, 1) := by decide +kernel
theorem dX10_parse_27 : decode cX10_parse 27 = .ok (.aload_n 1, 1) := by decide +kernel
theorem dX10_parse_28 : decode cX10_parse 28 = .ok (.putfield 37, 3) := by decide +kernel
theorem dX10_parse_31 : decode cX10_parse 31 = .ok (.aload_n 0, 1) := by decide +kernel
theorem dX10_parse_32 : decode cX10_parse 32 = .ok (.iload_n 2, 1) := by decide +kernel
theorem dX10_parse_33 : decode cX10_parse 33 = .ok (.putfield 41, 3) := by decide +kernel
theorem dX10_parse_36 : decode cX10_parse 36 = .ok (.aload_n 0, 1) := by decide +kernel
theorem dX10_parse_37 : decode cX10_parse 37 = .ok (.iconst 0, 1) := by decide +kernel
theorem dX10_parse_38 : decode cX10_parse 38 = .ok (.putfield 44, 3) := by decide +kernel
theorem dX10_parse_41 : decode cX10_parse 41 = .ok (.iconst 1, 1) := by decide +kernel
theorem dX10_parse_42 : decode cX10_parse 42 = .ok (.istore_n 3, 1) := by decide +kernel
theorem dX10_parse_43 : decode cX10_parse 43 = .ok (.iload_n 3, 1) := by decide +kernel
theorem dX10_parse_44 : decode cX10_parse 44 = .ok (.bipush 8, 2) := by decide +kernel
theorem dX10_parse_46 : decode cX10_parse 46 = .ok (.if_icmp .gt 74, 3) := by decide +kernel
theorem dX10_parse_49 : decode cX10_parse 49 = .ok (.aload_n 0, 1) := by decide +kernel
theorem dX10_parse_50 : decode cX10_parse 50 = .ok (.bipush 99, 2) := by decide +kernel
theorem dX10_parse_52 : decode cX10_parse 52 = .ok (.invokevirtual 47, 3) := by decide +kernel
theorem dX10_parse_55 : decode cX10_parse 55 = .ok (.ifCond .eq 10, 3) := by decide +kernel
theorem dX10_parse_58 : decode cX10_parse 58 = .ok (.aload_n 0, 1) := by decide +kernel
theorem dX10_parse_59 : decode cX10_parse 59 = .ok (.invokevirtual 51, 3) := by decide +kernel
theorem dX10_parse_62 : decode cX10_parse 62 = .ok (.goto 7, 3) := by decide +kernel
theorem dX10_parse_65 : decode cX10_parse 65 = .ok (.aload_n 0, 1) := by decide +kernel
theorem dX10_parse_66 : decode cX10_parse 66 = .ok (.invokevirtual 55, 3) := by decide +kernel
theorem dX10_parse_69 : decode cX10_parse 69 = .ok (.istore 4, 2) := by decide +kernel
theorem dX10_parse_71 : decode cX10_parse 71 = .ok (.iload 4, 2) := by decide +kernel
theorem dX10_parse_73 : decode cX10_parse 73 = .ok (.ifCond .eq 16, 3) := by decide +kernel
theorem dX10_parse_76 : decode cX10_parse 76 = .ok (.aload_n 0, 1) := by decide +kernel
theorem dX10_parse_77 : decode cX10_parse 77 = .ok (.getfield 44, 3) := by decide +kernel
theorem dX10_parse_80 : decode cX10_parse 80 = .ok (.aload_n 0, 1) := by decide +kernel
theorem dX10_parse_81 : decode cX10_parse 81 = .ok (.getfield 41, 3) := by decide +kernel
theorem dX10_parse_84 : decode cX10_parse 84 = .ok (.if_icmp .ne 5, 3) := by decide +kernel
theorem dX10_parse_87 : decode cX10_parse 87 = .ok (.iconst (-1), 1) := by decide +kernel
theorem dX10_parse_88 : decode cX10_parse 88 = .ok (.ireturn, 1) := by decide +kernel
theorem dX10_parse_89 : decode cX10_parse 89 = .ok (.iload 4, 2) := by decide +kernel
theorem dX10_parse_91 : decode cX10_parse 91 = .ok (.ifCond .eq 18, 3) := by decide +kernel
theorem dX10_parse_94 : decode cX10_parse 94 = .ok (.iload_n 3, 1) := by decide +kernel
theorem dX10_parse_95 : decode cX10_parse 95 = .ok (.bipush 8, 2) := by decide +kernel
theorem dX10_parse_97 : decode cX10_parse 97 = .ok (.if_icmp .eq 12, 3) := by decide +kernel
theorem dX10_parse_100 : decode cX10_parse 100 = .ok (.aload_n 0, 1) := by decide +kernel
theorem dX10_parse_101 : decode cX10_parse 101 = .ok (.bipush 59, 2) := by decide +kernel
theorem dX10_parse_103 : decode cX10_parse 103 = .ok (.invokevirtual 47, 3) := by decide +kernel
theorem dX10_parse_106 : decode cX10_parse 106 = .ok (.ifCond .ne 8, 3) := by decide +kernel
theorem dX10_parse_109 : decode cX10_parse 109 = .ok (.aload_n 0, 1) := by decide +kernel
theorem dX10_parse_110 : decode cX10_parse 110 = .ok (.getfield 44, 3) := by decide +kernel
theorem dX10_parse_113 : decode cX10_parse 113 = .ok (.ireturn, 1) := by decide +kernel
theorem dX10_parse_114 : decode cX10_parse 114 = .ok (.iinc 3 1, 3) := by decide +kernel
theorem dX10_parse_117 : decode cX10_parse 117 = .ok (.goto (-74), 3) := by decide +kernel
theorem dX10_parse_120 : decode cX10_parse 120 = .ok (.aload_n 0, 1) := by decide +kernel
theorem dX10_parse_121 : decode cX10_parse 121 = .ok (.getfield 44, 3) := by decide +kernel
theorem dX10_parse_124 : decode cX10_parse 124 = .ok (.ireturn, 1) := by decide +kernel
theorem dX10_calls_0 : decode cX10_calls 0 = .ok (.iconst 0, 1) := by decide +kernel
theorem dX10_calls_1 : decode cX10_calls 1 = .ok (.istore 6, 2) := by decide +kernel
theorem dX10_calls_3 : decode cX10_calls 3 = .ok (.iload 6, 2) := by decide +kernel
theorem dX10_calls_5 : decode cX10_calls 5 = .ok (.aload_n 0, 1) := by decide +kernel
theorem dX10_calls_6 : decode cX10_calls 6 = .ok (.getfield 31, 3) := by decide +kernel
theorem dX10_calls_9 : decode cX10_calls 9 = .ok (.if_icmp .ge 64, 3) := by decide +kernel
theorem dX10_calls_12 : decode cX10_calls 12 = .ok (.iload 6, 2) := by decide +kernel
theorem dX10_calls_14 : decode cX10_calls 14 = .ok (.ifCond .ne 7, 3) := by decide +kernel
theorem dX10_calls_17 : decode cX10_calls 17 = .ok (.iconst 0, 1) := by decide +kernel
theorem dX10_calls_18 : decode cX10_calls 18 = .ok (.goto 12, 3) := by decide +kernel
theorem dX10_calls_21 : decode cX10_calls 21 = .ok (.aload_n 0, 1) := by decide +kernel
theorem dX10_calls_22 : decode cX10_calls 22 = .ok (.getfield 19, 3) := by decide +kernel
theorem dX10_calls_25 : decode cX10_calls 25 = .ok (.iload 6, 2) := by decide +kernel
theorem dX10_calls_27 : decode cX10_calls 27 = .ok (.iconst 1, 1) := by decide +kernel
theorem dX10_calls_28 : decode cX10_calls 28 = .ok (.isub, 1) := by decide +kernel
theorem dX10_calls_29 : decode cX10_calls 29 = .ok (.iaload, 1) := by decide +kernel
theorem dX10_calls_30 : decode cX10_calls 30 = .ok (.istore 7, 2) := by decide +kernel
theorem dX10_calls_32 : decode cX10_calls 32 = .ok (.aload_n 0, 1) := by decide +kernel
theorem dX10_calls_33 : decode cX10_calls 33 = .ok (.getfield 15, 3) := by decide +kernel
theorem dX10_calls_36 : decode cX10_calls 36 = .ok (.iload 6, 2) := by decide +kernel
theorem dX10_calls_38 : decode cX10_calls 38 = .ok (.iaload, 1) := by decide +kernel
theorem dX10_calls_39 : decode cX10_calls 39 = .ok (.iload_n 1, 1) := by decide +kernel
theorem dX10_calls_40 : decode cX10_calls 40 = .ok (.if_icmp .ne 27, 3) := by decide +kernel
theorem dX10_calls_43 : decode cX10_calls 43 = .ok (.aload_n 0, 1) := by decide +kernel
theorem dX10_calls_44 : decode cX10_calls 44 = .ok (.iload 7, 2) := by decide +kernel
theorem dX10_calls_46 : decode cX10_calls 46 = .ok (.aload_n 0, 1) := by decide +kernel
theorem dX10_calls_47 : decode cX10_calls 47 = .ok (.getfield 19, 3) := by decide +kernel
theorem dX10_calls_50 : decode cX10_calls 50 = .ok (.iload 6, 2) := by decide +kernel
theorem dX10_calls_52 : decode cX10_calls 52 = .ok (.iaload, 1) := by decide +kernel
theorem dX10_calls_53 : decode cX10_calls 53 = .ok (.iload_n 2, 1) := by decide +kernel
theorem dX10_calls_54 : decode cX10_calls 54 = .ok (.iload_n 3, 1) := by decide +kernel
theorem dX10_calls_55 : decode cX10_calls 55 = .ok (.iload 4, 2) := by decide +kernel
theorem dX10_calls_57 : decode cX10_calls 57 = .ok (.iload 5, 2) := by decide +kernel
theorem dX10_calls_59 : decode cX10_calls 59 = .ok (.invokevirtual 58, 3) := by decide +kernel
theorem dX10_calls_62 : decode cX10_calls 62 = .ok (.ifCond .eq 5, 3) := by decide +kernel
theorem dX10_calls_65 : decode cX10_calls 65 = .ok (.iconst 1, 1) := by decide +kernel
theorem dX10_calls_66 : decode cX10_calls 66 = .ok (.ireturn, 1) := by decide +kernel
theorem dX10_calls_67 : decode cX10_calls 67 = .ok (.iinc 6 1, 3) := by decide +kernel
theorem dX10_calls_70 : decode cX10_calls 70 = .ok (.goto (-67), 3) := by decide +kernel
theorem dX10_calls_73 : decode cX10_calls 73 = .ok (.iconst 0, 1) := by decide +kernel
theorem dX10_calls_74 : decode cX10_calls 74 = .ok (.ireturn, 1) := by decide +kernel
theorem dX10_holds_0 : decode cX10_holds 0 = .ok (.iconst 0, 1) := by decide +kernel
theorem dX10_holds_1 : decode cX10_holds 1 = .ok (.istore 7, 2) := by decide +kernel
theorem dX10_holds_3 : decode cX10_holds 3 = .ok (.iload_n 1, 1) := by decide +kernel
theorem dX10_holds_4 : decode cX10_holds 4 = .ok (.istore 8, 2) := by decide +kernel
theorem dX10_holds_6 : decode cX10_holds 6 = .ok (.iload 8, 2) := by decide +kernel
theorem dX10_holds_8 : decode cX10_holds 8 = .ok (.iload_n 2, 1) := by decide +kernel
theorem dX10_holds_9 : decode cX10_holds 9 = .ok (.if_icmp .ge 155, 3) := by decide +kernel
theorem dX10_holds_12 : decode cX10_holds 12 = .ok (.aload_n 0, 1) := by decide +kernel
theorem dX10_holds_13 : decode cX10_holds 13 = .ok (.getfield 22, 3) := by decide +kernel
theorem dX10_holds_16 : decode cX10_holds 16 = .ok (.iload 8, 2) := by decide +kernel
theorem dX10_holds_18 : decode cX10_holds 18 = .ok (.iaload, 1) := by decide +kernel
theorem dX10_holds_19 : decode cX10_holds 19 = .ok (.istore 9, 2) := by decide +kernel
theorem dX10_holds_21 : decode cX10_holds 21 = .ok (.iload 9, 2) := by decide +kernel
theorem dX10_holds_23 : decode cX10_holds 23 = .ok (.bipush (-3), 2) := by decide +kernel
theorem dX10_holds_25 : decode cX10_holds 25 = .ok (.if_icmp .ne 12, 3) := by decide +kernel
theorem dX10_holds_28 : decode cX10_holds 28 = .ok (.iload 7, 2) := by decide +kernel
theorem dX10_holds_30 : decode cX10_holds 30 = .ok (.iconst 1, 1) := by decide +kernel
theorem dX10_holds_31 : decode cX10_holds 31 = .ok (.ixor, 1) := by decide +kernel
theorem dX10_holds_32 : decode cX10_holds 32 = .ok (.istore 7, 2) := by decide +kernel
theorem dX10_holds_34 : decode cX10_holds 34 = .ok (.goto 124, 3) := by decide +kernel
theorem dX10_holds_37 : decode cX10_holds 37 = .ok (.iload 9, 2) := by decide +kernel
theorem dX10_holds_39 : decode cX10_holds 39 = .ok (.iconst (-1), 1) := by decide +kernel
theorem dX10_holds_40 : decode cX10_holds 40 = .ok (.if_icmp .ne 18, 3) := by decide +kernel
theorem dX10_holds_43 : decode cX10_holds 43 = .ok (.iload 7, 2) := by decide +kernel
theorem dX10_holds_45 : decode cX10_holds 45 = .ok (.iconst 1, 1) := by decide +kernel
theorem dX10_holds_46 : decode cX10_holds 46 = .ok (.ishr, 1) := by decide +kernel
theorem dX10_holds_47 : decode cX10_holds 47 = .ok (.iload 7, 2) := by decide +kernel
theorem dX10_holds_49 : decode cX10_holds 49 = .ok (.bipush (-2), 2) := by decide +kernel
theorem dX10_holds_51 : decode cX10_holds 51 = .ok (.ior, 1) := by decide +kernel
theorem dX10_holds_52 : decode cX10_holds 52 = .ok (.iand, 1) := by decide +kernel
theorem dX10_holds_53 : decode cX10_holds 53 = .ok (.istore 7, 2) := by decide +kernel
theorem dX10_holds_55 : decode cX10_holds 55 = .ok (.goto 103, 3) := by decide +kernel
theorem dX10_holds_58 : decode cX10_holds 58 = .ok (.iload 9, 2) := by decide +kernel
theorem dX10_holds_60 : decode cX10_holds 60 = .ok (.bipush (-2), 2) := by decide +kernel
theorem dX10_holds_62 : decode cX10_holds 62 = .ok (.if_icmp .ne 17, 3) := by decide +kernel
theorem dX10_holds_65 : decode cX10_holds 65 = .ok (.iload 7, 2) := by decide +kernel
theorem dX10_holds_67 : decode cX10_holds 67 = .ok (.iconst 1, 1) := by decide +kernel
theorem dX10_holds_68 : decode cX10_holds 68 = .ok (.ishr, 1) := by decide +kernel
theorem dX10_holds_69 : decode cX10_holds 69 = .ok (.iload 7, 2) := by decide +kernel
theorem dX10_holds_71 : decode cX10_holds 71 = .ok (.iconst 1, 1) := by decide +kernel
theorem dX10_holds_72 : decode cX10_holds 72 = .ok (.iand, 1) := by decide +kernel
theorem dX10_holds_73 : decode cX10_holds 73 = .ok (.ior, 1) := by decide +kernel
theorem dX10_holds_74 : decode cX10_holds 74 = .ok (.istore 7, 2) := by decide +kernel
theorem dX10_holds_76 : decode cX10_holds 76 = .ok (.goto 82, 3) := by decide +kernel
theorem dX10_holds_79 : decode cX10_holds 79 = .ok (.iload 9, 2) := by decide +kernel
theorem dX10_holds_81 : decode cX10_holds 81 = .ok (.sipush 300, 3) := by decide +kernel
theorem dX10_holds_84 : decode cX10_holds 84 = .ok (.idiv, 1) := by decide +kernel
theorem dX10_holds_85 : decode cX10_holds 85 = .ok (.istore 10, 2) := by decide +kernel
theorem dX10_holds_87 : decode cX10_holds 87 = .ok (.iload 9, 2) := by decide +kernel
theorem dX10_holds_89 : decode cX10_holds 89 = .ok (.bipush 100, 2) := by decide +kernel
theorem dX10_holds_91 : decode cX10_holds 91 = .ok (.idiv, 1) := by decide +kernel
theorem dX10_holds_92 : decode cX10_holds 92 = .ok (.iconst 3, 1) := by decide +kernel
theorem dX10_holds_93 : decode cX10_holds 93 = .ok (.irem, 1) := by decide +kernel
theorem dX10_holds_94 : decode cX10_holds 94 = .ok (.istore 11, 2) := by decide +kernel
theorem dX10_holds_96 : decode cX10_holds 96 = .ok (.iload 10, 2) := by decide +kernel
theorem dX10_holds_98 : decode cX10_holds 98 = .ok (.ifCond .ne 7, 3) := by decide +kernel
theorem dX10_holds_101 : decode cX10_holds 101 = .ok (.iload_n 3, 1) := by decide +kernel
theorem dX10_holds_102 : decode cX10_holds 102 = .ok (.goto 27, 3) := by decide +kernel
theorem dX10_holds_105 : decode cX10_holds 105 = .ok (.iload 10, 2) := by decide +kernel
theorem dX10_holds_107 : decode cX10_holds 107 = .ok (.iconst 1, 1) := by decide +kernel
theorem dX10_holds_108 : decode cX10_holds 108 = .ok (.if_icmp .ne 8, 3) := by decide +kernel
theorem dX10_holds_111 : decode cX10_holds 111 = .ok (.iload 4, 2) := by decide +kernel
theorem dX10_holds_113 : decode cX10_holds 113 = .ok (.goto 16, 3) := by decide +kernel
theorem dX10_holds_116 : decode cX10_holds 116 = .ok (.iload 10, 2) := by decide +kernel
theorem dX10_holds_118 : decode cX10_holds 118 = .ok (.iconst 2, 1) := by decide +kernel
theorem dX10_holds_119 : decode cX10_holds 119 = .ok (.if_icmp .ne 8, 3) := by decide +kernel
theorem dX10_holds_122 : decode cX10_holds 122 = .ok (.iload 5, 2) := by decide +kernel
theorem dX10_holds_124 : decode cX10_holds 124 = .ok (.goto 5, 3) := by decide +kernel
theorem dX10_holds_127 : decode cX10_holds 127 = .ok (.iload 6, 2) := by decide +kernel
theorem dX10_holds_129 : decode cX10_holds 129 = .ok (.istore 12, 2) := by decide +kernel
theorem dX10_holds_131 : decode cX10_holds 131 = .ok (.iload 7, 2) := by decide +kernel
theorem dX10_holds_133 : decode cX10_holds 133 = .ok (.iconst 1, 1) := by decide +kernel
theorem dX10_holds_134 : decode cX10_holds 134 = .ok (.ishl, 1) := by decide +kernel
theorem dX10_holds_135 : decode cX10_holds 135 = .ok (.iload 12, 2) := by decide +kernel
theorem dX10_holds_137 : decode cX10_holds 137 = .ok (.iload 11, 2) := by decide +kernel
theorem dX10_holds_139 : decode cX10_holds 139 = .ok (.iload 9, 2) := by decide +kernel
theorem dX10_holds_141 : decode cX10_holds 141 = .ok (.bipush 100, 2) := by decide +kernel
theorem dX10_holds_143 : decode cX10_holds 143 = .ok (.irem, 1) := by decide +kernel
theorem dX10_holds_144 : decode cX10_holds 144 = .ok (.invokestatic 62, 3) := by decide +kernel
theorem dX10_holds_147 : decode cX10_holds 147 = .ok (.ifCond .eq 7, 3) := by decide +kernel
theorem dX10_holds_150 : decode cX10_holds 150 = .ok (.iconst 1, 1) := by decide +kernel
theorem dX10_holds_151 : decode cX10_holds 151 = .ok (.goto 4, 3) := by decide +kernel
theorem dX10_holds_154 : decode cX10_holds 154 = .ok (.iconst 0, 1) := by decide +kernel
theorem dX10_holds_155 : decode cX10_holds 155 = .ok (.ior, 1) := by decide +kernel
theorem dX10_holds_156 : decode cX10_holds 156 = .ok (.istore 7, 2) := by decide +kernel
theorem dX10_holds_158 : decode cX10_holds 158 = .ok (.iinc 8 1, 3) := by decide +kernel
theorem dX10_holds_161 : decode cX10_holds 161 = .ok (.goto (-155), 3) := by decide +kernel
theorem dX10_holds_164 : decode cX10_holds 164 = .ok (.iload 7, 2) := by decide +kernel
theorem dX10_holds_166 : decode cX10_holds 166 = .ok (.iconst 1, 1) := by decide +kernel
theorem dX10_holds_167 : decode cX10_holds 167 = .ok (.iand, 1) := by decide +kernel
theorem dX10_holds_168 : decode cX10_holds 168 = .ok (.iconst 1, 1) := by decide +kernel
theorem dX10_holds_169 : decode cX10_holds 169 = .ok (.if_icmp .ne 7, 3) := by decide +kernel
theorem dX10_holds_172 : decode cX10_holds 172 = .ok (.iconst 1, 1) := by decide +kernel
theorem dX10_holds_173 : decode cX10_holds 173 = .ok (.goto 4, 3) := by decide +kernel
theorem dX10_holds_176 : decode cX10_holds 176 = .ok (.iconst 0, 1) := by decide +kernel
theorem dX10_holds_177 : decode cX10_holds 177 = .ok (.ireturn, 1) := by decide +kernel
theorem dX10_tested_0 : decode cX10_tested 0 = .ok (.iload_n 1, 1) := by decide +kernel
theorem dX10_tested_1 : decode cX10_tested 1 = .ok (.ifCond .ne 16, 3) := by decide +kernel
theorem dX10_tested_4 : decode cX10_tested 4 = .ok (.iload_n 0, 1) := by decide +kernel
theorem dX10_tested_5 : decode cX10_tested 5 = .ok (.iload_n 2, 1) := by decide +kernel
theorem dX10_tested_6 : decode cX10_tested 6 = .ok (.if_icmp .ge 7, 3) := by decide +kernel
theorem dX10_tested_9 : decode cX10_tested 9 = .ok (.iconst 1, 1) := by decide +kernel
theorem dX10_tested_10 : decode cX10_tested 10 = .ok (.goto 35, 3) := by decide +kernel
theorem dX10_tested_13 : decode cX10_tested 13 = .ok (.iconst 0, 1) := by decide +kernel
theorem dX10_tested_14 : decode cX10_tested 14 = .ok (.goto 31, 3) := by decide +kernel
theorem dX10_tested_17 : decode cX10_tested 17 = .ok (.iload_n 1, 1) := by decide +kernel
theorem dX10_tested_18 : decode cX10_tested 18 = .ok (.iconst 1, 1) := by decide +kernel
theorem dX10_tested_19 : decode cX10_tested 19 = .ok (.if_icmp .ne 16, 3) := by decide +kernel
theorem dX10_tested_22 : decode cX10_tested 22 = .ok (.iload_n 0, 1) := by decide +kernel
theorem dX10_tested_23 : decode cX10_tested 23 = .ok (.iload_n 2, 1) := by decide +kernel
theorem dX10_tested_24 : decode cX10_tested 24 = .ok (.if_icmp .ne 7, 3) := by decide +kernel
theorem dX10_tested_27 : decode cX10_tested 27 = .ok (.iconst 1, 1) := by decide +kernel
theorem dX10_tested_28 : decode cX10_tested 28 = .ok (.goto 17, 3) := by decide +kernel
theorem dX10_tested_31 : decode cX10_tested 31 = .ok (.iconst 0, 1) := by decide +kernel
theorem dX10_tested_32 : decode cX10_tested 32 = .ok (.goto 13, 3) := by decide +kernel
theorem dX10_tested_35 : decode cX10_tested 35 = .ok (.iload_n 0, 1) := by decide +kernel
theorem dX10_tested_36 : decode cX10_tested 36 = .ok (.iload_n 2, 1) := by decide +kernel
theorem dX10_tested_37 : decode cX10_tested 37 = .ok (.if_icmp .le 7, 3) := by decide +kernel
theorem dX10_tested_40 : decode cX10_tested 40 = .ok (.iconst 1, 1) := by decide +kernel
theorem dX10_tested_41 : decode cX10_tested 41 = .ok (.goto 4, 3) := by decide +kernel
theorem dX10_tested_44 : decode cX10_tested 44 = .ok (.iconst 0, 1) := by decide +kernel
theorem dX10_tested_45 : decode cX10_tested 45 = .ok (.ireturn, 1) := by decide +kernel
theorem dX10_comeClause_0 : decode cX10_comeClause 0 = .ok (.aload_n 0, 1) := by decide +kernel
theorem dX10_comeClause_1 : decode cX10_comeClause 1 = .ok (.getfield 31, 3) := by decide +kernel
theorem dX10_comeClause_4 : decode cX10_comeClause 4 = .ok (.bipush 8, 2) := by decide +kernel
theorem dX10_comeClause_6 : decode cX10_comeClause 6 = .ok (.if_icmp .ge 12, 3) := by decide +kernel
theorem dX10_comeClause_9 : decode cX10_comeClause 9 = .ok (.aload_n 0, 1) := by decide +kernel
theorem dX10_comeClause_10 : decode cX10_comeClause 10 = .ok (.ldc 66, 2) := by decide +kernel
theorem dX10_comeClause_12 : decode cX10_comeClause 12 = .ok (.invokevirtual 68, 3) := by decide +kernel
theorem dX10_comeClause_15 : decode cX10_comeClause 15 = .ok (.ifCond .ne 5, 3) := by decide +kernel
theorem dX10_comeClause_18 : decode cX10_comeClause 18 = .ok (.iconst 0, 1) := by decide +kernel
theorem dX10_comeClause_19 : decode cX10_comeClause 19 = .ok (.ireturn, 1) := by decide +kernel
theorem dX10_comeClause_20 : decode cX10_comeClause 20 = .ok (.aload_n 0, 1) := by decide +kernel
theorem dX10_comeClause_21 : decode cX10_comeClause 21 = .ok (.invokevirtual 72, 3) := by decide +kernel
theorem dX10_comeClause_24 : decode cX10_comeClause 24 = .ok (.istore_n 1, 1) := by decide +kernel
theorem dX10_comeClause_25 : decode cX10_comeClause 25 = .ok (.iload_n 1, 1) := by decide +kernel
theorem dX10_comeClause_26 : decode cX10_comeClause 26 = .ok (.ifCond .lt 9, 3) := by decide +kernel
theorem dX10_comeClause_29 : decode cX10_comeClause 29 = .ok (.iload_n 1, 1) := by decide +kernel
theorem dX10_comeClause_30 : decode cX10_comeClause 30 = .ok (.bipush 6, 2) := by decide +kernel
theorem dX10_comeClause_32 : decode cX10_comeClause 32 = .ok (.if_icmp .lt 5, 3) := by decide +kernel
theorem dX10_comeClause_35 : decode cX10_comeClause 35 = .ok (.iconst 0, 1) := by decide +kernel
theorem dX10_comeClause_36 : decode cX10_comeClause 36 = .ok (.ireturn, 1) := by decide +kernel
theorem dX10_comeClause_37 : decode cX10_comeClause 37 = .ok (.aload_n 0, 1) := by decide +kernel
theorem dX10_comeClause_38 : decode cX10_comeClause 38 = .ok (.dup, 1) := by decide +kernel
theorem dX10_comeClause_39 : decode cX10_comeClause 39 = .ok (.getfield 44, 3) := by decide +kernel
theorem dX10_comeClause_42 : decode cX10_comeClause 42 = .ok (.iconst 1, 1) := by decide +kernel
theorem dX10_comeClause_43 : decode cX10_comeClause 43 = .ok (.iadd, 1) := by decide +kernel
theorem dX10_comeClause_44 : decode cX10_comeClause 44 = .ok (.putfield 44, 3) := by decide +kernel
theorem dX10_comeClause_47 : decode cX10_comeClause 47 = .ok (.aload_n 0, 1) := by decide +kernel
theorem dX10_comeClause_48 : decode cX10_comeClause 48 = .ok (.bipush 32, 2) := by decide +kernel
theorem dX10_comeClause_50 : decode cX10_comeClause 50 = .ok (.invokevirtual 47, 3) := by decide +kernel
theorem dX10_comeClause_53 : decode cX10_comeClause 53 = .ok (.ifCond .eq 11, 3) := by decide +kernel
theorem dX10_comeClause_56 : decode cX10_comeClause 56 = .ok (.aload_n 0, 1) := by decide +kernel
theorem dX10_comeClause_57 : decode cX10_comeClause 57 = .ok (.iconst 0, 1) := by decide +kernel
theorem dX10_comeClause_58 : decode cX10_comeClause 58 = .ok (.invokevirtual 76, 3) := by decide +kernel
theorem dX10_comeClause_61 : decode cX10_comeClause 61 = .ok (.ifCond .ne 5, 3) := by decide +kernel
theorem dX10_comeClause_64 : decode cX10_comeClause 64 = .ok (.iconst 0, 1) := by decide +kernel
theorem dX10_comeClause_65 : decode cX10_comeClause 65 = .ok (.ireturn, 1) := by decide +kernel
theorem dX10_comeClause_66 : decode cX10_comeClause 66 = .ok (.aload_n 0, 1) := by decide +kernel
theorem dX10_comeClause_67 : decode cX10_comeClause 67 = .ok (.getfield 15, 3) := by decide +kernel
theorem dX10_comeClause_70 : decode cX10_comeClause 70 = .ok (.aload_n 0, 1) := by decide +kernel
theorem dX10_comeClause_71 : decode cX10_comeClause 71 = .ok (.getfield 31, 3) := by decide +kernel
theorem dX10_comeClause_74 : decode cX10_comeClause 74 = .ok (.iload_n 1, 1) := by decide +kernel
theorem dX10_comeClause_75 : decode cX10_comeClause 75 = .ok (.iastore, 1) := by decide +kernel
theorem dX10_comeClause_76 : decode cX10_comeClause 76 = .ok (.aload_n 0, 1) := by decide +kernel
theorem dX10_comeClause_77 : decode cX10_comeClause 77 = .ok (.getfield 19, 3) := by decide +kernel
theorem dX10_comeClause_80 : decode cX10_comeClause 80 = .ok (.aload_n 0, 1) := by decide +kernel
theorem dX10_comeClause_81 : decode cX10_comeClause 81 = .ok (.getfield 31, 3) := by decide +kernel
theorem dX10_comeClause_84 : decode cX10_comeClause 84 = .ok (.aload_n 0, 1) := by decide +kernel
theorem dX10_comeClause_85 : decode cX10_comeClause 85 = .ok (.getfield 34, 3) := by decide +kernel
theorem dX10_comeClause_88 : decode cX10_comeClause 88 = .ok (.iastore, 1) := by decide +kernel
theorem dX10_comeClause_89 : decode cX10_comeClause 89 = .ok (.aload_n 0, 1) := by decide +kernel
theorem dX10_comeClause_90 : decode cX10_comeClause 90 = .ok (.dup, 1) := by decide +kernel
theorem dX10_comeClause_91 : decode cX10_comeClause 91 = .ok (.getfield 31, 3) := by decide +kernel
theorem dX10_comeClause_94 : decode cX10_comeClause 94 = .ok (.iconst 1, 1) := by decide +kernel
theorem dX10_comeClause_95 : decode cX10_comeClause 95 = .ok (.iadd, 1) := by decide +kernel
theorem dX10_comeClause_96 : decode cX10_comeClause 96 = .ok (.putfield 31, 3) := by decide +kernel
theorem dX10_comeClause_99 : decode cX10_comeClause 99 = .ok (.iconst 1, 1) := by decide +kernel
theorem dX10_comeClause_100 : decode cX10_comeClause 100 = .ok (.ireturn, 1) := by decide +kernel
theorem dX10_numberClause_0 : decode cX10_numberClause 0 = .ok (.aload_n 0, 1) := by decide +kernel
theorem dX10_numberClause_1 : decode cX10_numberClause 1 = .ok (.invokevirtual 80, 3) := by decide +kernel
theorem dX10_numberClause_4 : decode cX10_numberClause 4 = .ok (.istore_n 1, 1) := by decide +kernel
theorem dX10_numberClause_5 : decode cX10_numberClause 5 = .ok (.iload_n 1, 1) := by decide +kernel
theorem dX10_numberClause_6 : decode cX10_numberClause 6 = .ok (.ifCond .ge 7, 3) := by decide +kernel
theorem dX10_numberClause_9 : decode cX10_numberClause 9 = .ok (.iconst (-1), 1) := by decide +kernel
theorem dX10_numberClause_10 : decode cX10_numberClause 10 = .ok (.goto 7, 3) := by decide +kernel
theorem dX10_numberClause_13 : decode cX10_numberClause 13 = .ok (.aload_n 0, 1) := by decide +kernel
theorem dX10_numberClause_14 : decode cX10_numberClause 14 = .ok (.invokevirtual 83, 3) := by decide +kernel
theorem dX10_numberClause_17 : decode cX10_numberClause 17 = .ok (.istore_n 2, 1) := by decide +kernel
theorem dX10_numberClause_18 : decode cX10_numberClause 18 = .ok (.iload_n 2, 1) := by decide +kernel
theorem dX10_numberClause_19 : decode cX10_numberClause 19 = .ok (.ifCond .ge 5, 3) := by decide +kernel
theorem dX10_numberClause_22 : decode cX10_numberClause 22 = .ok (.iconst 0, 1) := by decide +kernel
theorem dX10_numberClause_23 : decode cX10_numberClause 23 = .ok (.ireturn, 1) := by decide +kernel
theorem dX10_numberClause_24 : decode cX10_numberClause 24 = .ok (.iload_n 1, 1) := by decide +kernel
theorem dX10_numberClause_25 : decode cX10_numberClause 25 = .ok (.lookupswitch 53 #[(0, 27), (1, 40)], 27) := by decide +kernel
theorem dX10_numberClause_52 : decode cX10_numberClause 52 = .ok (.aload_n 0, 1) := by decide +kernel
theorem dX10_numberClause_53 : decode cX10_numberClause 53 = .ok (.iload_n 2, 1) := by decide +kernel
theorem dX10_numberClause_54 : decode cX10_numberClause 54 = .ok (.bipush 20, 2) := by decide +kernel
theorem dX10_numberClause_56 : decode cX10_numberClause 56 = .ok (.invokestatic 86, 3) := by decide +kernel
theorem dX10_numberClause_59 : decode cX10_numberClause 59 = .ok (.putfield 25, 3) := by decide +kernel
theorem dX10_numberClause_62 : decode cX10_numberClause 62 = .ok (.goto 26, 3) := by decide +kernel
theorem dX10_numberClause_65 : decode cX10_numberClause 65 = .ok (.aload_n 0, 1) := by decide +kernel
theorem dX10_numberClause_66 : decode cX10_numberClause 66 = .ok (.iload_n 2, 1) := by decide +kernel
theorem dX10_numberClause_67 : decode cX10_numberClause 67 = .ok (.bipush 20, 2) := by decide +kernel
theorem dX10_numberClause_69 : decode cX10_numberClause 69 = .ok (.invokestatic 86, 3) := by decide +kernel
theorem dX10_numberClause_72 : decode cX10_numberClause 72 = .ok (.putfield 28, 3) := by decide +kernel
theorem dX10_numberClause_75 : decode cX10_numberClause 75 = .ok (.goto 13, 3) := by decide +kernel
theorem dX10_numberClause_78 : decode cX10_numberClause 78 = .ok (.aload_n 0, 1) := by decide +kernel
theorem dX10_numberClause_79 : decode cX10_numberClause 79 = .ok (.iload_n 2, 1) := by decide +kernel
theorem dX10_numberClause_80 : decode cX10_numberClause 80 = .ok (.bipush 40, 2) := by decide +kernel
theorem dX10_numberClause_82 : decode cX10_numberClause 82 = .ok (.invokestatic 86, 3) := by decide +kernel
theorem dX10_numberClause_85 : decode cX10_numberClause 85 = .ok (.putfield 11, 3) := by decide +kernel
theorem dX10_numberClause_88 : decode cX10_numberClause 88 = .ok (.iconst 1, 1) := by decide +kernel
theorem dX10_numberClause_89 : decode cX10_numberClause 89 = .ok (.ireturn, 1) := by decide +kernel
theorem dX10_numberWord_0 : decode cX10_numberWord 0 = .ok (.aload_n 0, 1) := by decide +kernel
theorem dX10_numberWord_1 : decode cX10_numberWord 1 = .ok (.bipush 112, 2) := by decide +kernel
theorem dX10_numberWord_3 : decode cX10_numberWord 3 = .ok (.invokevirtual 47, 3) := by decide +kernel
theorem dX10_numberWord_6 : decode cX10_numberWord 6 = .ok (.ifCond .eq 18, 3) := by decide +kernel
theorem dX10_numberWord_9 : decode cX10_numberWord 9 = .ok (.aload_n 0, 1) := by decide +kernel
theorem dX10_numberWord_10 : decode cX10_numberWord 10 = .ok (.ldc 92, 2) := by decide +kernel
theorem dX10_numberWord_12 : decode cX10_numberWord 12 = .ok (.invokevirtual 68, 3) := by decide +kernel
theorem dX10_numberWord_15 : decode cX10_numberWord 15 = .ok (.ifCond .eq 7, 3) := by decide +kernel
theorem dX10_numberWord_18 : decode cX10_numberWord 18 = .ok (.iconst 0, 1) := by decide +kernel
theorem dX10_numberWord_19 : decode cX10_numberWord 19 = .ok (.goto 4, 3) := by decide +kernel
theorem dX10_numberWord_22 : decode cX10_numberWord 22 = .ok (.iconst (-1), 1) := by decide +kernel
theorem dX10_numberWord_23 : decode cX10_numberWord 23 = .ok (.ireturn, 1) := by decide +kernel
theorem dX10_numberWord_24 : decode cX10_numberWord 24 = .ok (.aload_n 0, 1) := by decide +kernel
theorem dX10_numberWord_25 : decode cX10_numberWord 25 = .ok (.ldc 94, 2) := by decide +kernel
theorem dX10_numberWord_27 : decode cX10_numberWord 27 = .ok (.invokevirtual 68, 3) := by decide +kernel
theorem dX10_numberWord_30 : decode cX10_numberWord 30 = .ok (.ifCond .ne 5, 3) := by decide +kernel
theorem dX10_numberWord_33 : decode cX10_numberWord 33 = .ok (.iconst (-1), 1) := by decide +kernel
theorem dX10_numberWord_34 : decode cX10_numberWord 34 = .ok (.ireturn, 1) := by decide +kernel
theorem dX10_numberWord_35 : decode cX10_numberWord 35 = .ok (.aload_n 0, 1) := by decide +kernel
theorem dX10_numberWord_36 : decode cX10_numberWord 36 = .ok (.bipush 114, 2) := by decide +kernel
theorem dX10_numberWord_38 : decode cX10_numberWord 38 = .ok (.invokevirtual 47, 3) := by decide +kernel
theorem dX10_numberWord_41 : decode cX10_numberWord 41 = .ok (.ifCond .eq 18, 3) := by decide +kernel
theorem dX10_numberWord_44 : decode cX10_numberWord 44 = .ok (.aload_n 0, 1) := by decide +kernel
theorem dX10_numberWord_45 : decode cX10_numberWord 45 = .ok (.ldc 96, 2) := by decide +kernel
theorem dX10_numberWord_47 : decode cX10_numberWord 47 = .ok (.invokevirtual 68, 3) := by decide +kernel
theorem dX10_numberWord_50 : decode cX10_numberWord 50 = .ok (.ifCond .eq 7, 3) := by decide +kernel
theorem dX10_numberWord_53 : decode cX10_numberWord 53 = .ok (.iconst 1, 1) := by decide +kernel
theorem dX10_numberWord_54 : decode cX10_numberWord 54 = .ok (.goto 4, 3) := by decide +kernel
theorem dX10_numberWord_57 : decode cX10_numberWord 57 = .ok (.iconst (-1), 1) := by decide +kernel
theorem dX10_numberWord_58 : decode cX10_numberWord 58 = .ok (.ireturn, 1) := by decide +kernel
theorem dX10_numberWord_59 : decode cX10_numberWord 59 = .ok (.aload_n 0, 1) := by decide +kernel
theorem dX10_numberWord_60 : decode cX10_numberWord 60 = .ok (.ldc 98, 2) := by decide +kernel
theorem dX10_numberWord_62 : decode cX10_numberWord 62 = .ok (.invokevirtual 68, 3) := by decide +kernel
theorem dX10_numberWord_65 : decode cX10_numberWord 65 = .ok (.ifCond .eq 7, 3) := by decide +kernel
theorem dX10_numberWord_68 : decode cX10_numberWord 68 = .ok (.iconst 2, 1) := by decide +kernel
theorem dX10_numberWord_69 : decode cX10_numberWord 69 = .ok (.goto 4, 3) := by decide +kernel
theorem dX10_numberWord_72 : decode cX10_numberWord 72 = .ok (.iconst (-1), 1) := by decide +kernel
theorem dX10_numberWord_73 : decode cX10_numberWord 73 = .ok (.ireturn, 1) := by decide +kernel
theorem dX10_either_0 : decode cX10_either 0 = .ok (.iconst 0, 1) := by decide +kernel
theorem dX10_either_1 : decode cX10_either 1 = .ok (.istore_n 2, 1) := by decide +kernel
theorem dX10_either_2 : decode cX10_either 2 = .ok (.iload_n 2, 1) := by decide +kernel
theorem dX10_either_3 : decode cX10_either 3 = .ok (.bipush 100, 2) := by decide +kernel
theorem dX10_either_5 : decode cX10_either 5 = .ok (.if_icmp .ge 40, 3) := by decide +kernel
theorem dX10_either_8 : decode cX10_either 8 = .ok (.aload_n 0, 1) := by decide +kernel
theorem dX10_either_9 : decode cX10_either 9 = .ok (.iload_n 1, 1) := by decide +kernel
theorem dX10_either_10 : decode cX10_either 10 = .ok (.invokevirtual 100, 3) := by decide +kernel
theorem dX10_either_13 : decode cX10_either 13 = .ok (.ifCond .ne 5, 3) := by decide +kernel
theorem dX10_either_16 : decode cX10_either 16 = .ok (.iconst 0, 1) := by decide +kernel
theorem dX10_either_17 : decode cX10_either 17 = .ok (.ireturn, 1) := by decide +kernel
theorem dX10_either_18 : decode cX10_either 18 = .ok (.iload_n 2, 1) := by decide +kernel
theorem dX10_either_19 : decode cX10_either 19 = .ok (.ifCond .le 9, 3) := by decide +kernel
theorem dX10_either_22 : decode cX10_either 22 = .ok (.aload_n 0, 1) := by decide +kernel
theorem dX10_either_23 : decode cX10_either 23 = .ok (.bipush (-2), 2) := by decide +kernel
theorem dX10_either_25 : decode cX10_either 25 = .ok (.invokevirtual 103, 3) := by decide +kernel
theorem dX10_either_28 : decode cX10_either 28 = .ok (.aload_n 0, 1) := by decide +kernel
theorem dX10_either_29 : decode cX10_either 29 = .ok (.bipush 124, 2) := by decide +kernel
theorem dX10_either_31 : decode cX10_either 31 = .ok (.invokevirtual 47, 3) := by decide +kernel
theorem dX10_either_34 : decode cX10_either 34 = .ok (.ifCond .ne 5, 3) := by decide +kernel
theorem dX10_either_37 : decode cX10_either 37 = .ok (.iconst 1, 1) := by decide +kernel
theorem dX10_either_38 : decode cX10_either 38 = .ok (.ireturn, 1) := by decide +kernel
theorem dX10_either_39 : decode cX10_either 39 = .ok (.iinc 2 1, 3) := by decide +kernel
theorem dX10_either_42 : decode cX10_either 42 = .ok (.goto (-40), 3) := by decide +kernel
theorem dX10_either_45 : decode cX10_either 45 = .ok (.iconst 0, 1) := by decide +kernel
theorem dX10_either_46 : decode cX10_either 46 = .ok (.ireturn, 1) := by decide +kernel
theorem dX10_both_0 : decode cX10_both 0 = .ok (.iconst 0, 1) := by decide +kernel
theorem dX10_both_1 : decode cX10_both 1 = .ok (.istore_n 2, 1) := by decide +kernel
theorem dX10_both_2 : decode cX10_both 2 = .ok (.iload_n 2, 1) := by decide +kernel
theorem dX10_both_3 : decode cX10_both 3 = .ok (.bipush 100, 2) := by decide +kernel
theorem dX10_both_5 : decode cX10_both 5 = .ok (.if_icmp .ge 39, 3) := by decide +kernel
theorem dX10_both_8 : decode cX10_both 8 = .ok (.aload_n 0, 1) := by decide +kernel
theorem dX10_both_9 : decode cX10_both 9 = .ok (.iload_n 1, 1) := by decide +kernel
theorem dX10_both_10 : decode cX10_both 10 = .ok (.invokevirtual 107, 3) := by decide +kernel
theorem dX10_both_13 : decode cX10_both 13 = .ok (.ifCond .ne 5, 3) := by decide +kernel
theorem dX10_both_16 : decode cX10_both 16 = .ok (.iconst 0, 1) := by decide +kernel
theorem dX10_both_17 : decode cX10_both 17 = .ok (.ireturn, 1) := by decide +kernel
theorem dX10_both_18 : decode cX10_both 18 = .ok (.iload_n 2, 1) := by decide +kernel
theorem dX10_both_19 : decode cX10_both 19 = .ok (.ifCond .le 8, 3) := by decide +kernel
theorem dX10_both_22 : decode cX10_both 22 = .ok (.aload_n 0, 1) := by decide +kernel
theorem dX10_both_23 : decode cX10_both 23 = .ok (.iconst (-1), 1) := by decide +kernel
theorem dX10_both_24 : decode cX10_both 24 = .ok (.invokevirtual 103, 3) := by decide +kernel
theorem dX10_both_27 : decode cX10_both 27 = .ok (.aload_n 0, 1) := by decide +kernel
theorem dX10_both_28 : decode cX10_both 28 = .ok (.bipush 38, 2) := by decide +kernel
theorem dX10_both_30 : decode cX10_both 30 = .ok (.invokevirtual 47, 3) := by decide +kernel
theorem dX10_both_33 : decode cX10_both 33 = .ok (.ifCond .ne 5, 3) := by decide +kernel
theorem dX10_both_36 : decode cX10_both 36 = .ok (.iconst 1, 1) := by decide +kernel
theorem dX10_both_37 : decode cX10_both 37 = .ok (.ireturn, 1) := by decide +kernel
theorem dX10_both_38 : decode cX10_both 38 = .ok (.iinc 2 1, 3) := by decide +kernel
theorem dX10_both_41 : decode cX10_both 41 = .ok (.goto (-39), 3) := by decide +kernel
theorem dX10_both_44 : decode cX10_both 44 = .ok (.iconst 0, 1) := by decide +kernel
theorem dX10_both_45 : decode cX10_both 45 = .ok (.ireturn, 1) := by decide +kernel
theorem dX10_factor_0 : decode cX10_factor 0 = .ok (.iload_n 1, 1) := by decide +kernel
theorem dX10_factor_1 : decode cX10_factor 1 = .ok (.iconst 4, 1) := by decide +kernel
theorem dX10_factor_2 : decode cX10_factor 2 = .ok (.if_icmp .ge 32, 3) := by decide +kernel
theorem dX10_factor_5 : decode cX10_factor 5 = .ok (.aload_n 0, 1) := by decide +kernel
theorem dX10_factor_6 : decode cX10_factor 6 = .ok (.bipush 33, 2) := by decide +kernel
theorem dX10_factor_8 : decode cX10_factor 8 = .ok (.invokevirtual 47, 3) := by decide +kernel
theorem dX10_factor_11 : decode cX10_factor 11 = .ok (.ifCond .eq 23, 3) := by decide +kernel
theorem dX10_factor_14 : decode cX10_factor 14 = .ok (.aload_n 0, 1) := by decide +kernel
theorem dX10_factor_15 : decode cX10_factor 15 = .ok (.iload_n 1, 1) := by decide +kernel
theorem dX10_factor_16 : decode cX10_factor 16 = .ok (.iconst 1, 1) := by decide +kernel
theorem dX10_factor_17 : decode cX10_factor 17 = .ok (.iadd, 1) := by decide +kernel
theorem dX10_factor_18 : decode cX10_factor 18 = .ok (.invokevirtual 107, 3) := by decide +kernel
theorem dX10_factor_21 : decode cX10_factor 21 = .ok (.ifCond .ne 5, 3) := by decide +kernel
theorem dX10_factor_24 : decode cX10_factor 24 = .ok (.iconst 0, 1) := by decide +kernel
theorem dX10_factor_25 : decode cX10_factor 25 = .ok (.ireturn, 1) := by decide +kernel
theorem dX10_factor_26 : decode cX10_factor 26 = .ok (.aload_n 0, 1) := by decide +kernel
theorem dX10_factor_27 : decode cX10_factor 27 = .ok (.bipush (-3), 2) := by decide +kernel
theorem dX10_factor_29 : decode cX10_factor 29 = .ok (.invokevirtual 103, 3) := by decide +kernel
theorem dX10_factor_32 : decode cX10_factor 32 = .ok (.iconst 1, 1) := by decide +kernel
theorem dX10_factor_33 : decode cX10_factor 33 = .ok (.ireturn, 1) := by decide +kernel
theorem dX10_factor_34 : decode cX10_factor 34 = .ok (.iload_n 1, 1) := by decide +kernel
theorem dX10_factor_35 : decode cX10_factor 35 = .ok (.iconst 4, 1) := by decide +kernel
theorem dX10_factor_36 : decode cX10_factor 36 = .ok (.if_icmp .ge 37, 3) := by decide +kernel
theorem dX10_factor_39 : decode cX10_factor 39 = .ok (.aload_n 0, 1) := by decide +kernel
theorem dX10_factor_40 : decode cX10_factor 40 = .ok (.bipush 40, 2) := by decide +kernel
theorem dX10_factor_42 : decode cX10_factor 42 = .ok (.invokevirtual 47, 3) := by decide +kernel
theorem dX10_factor_45 : decode cX10_factor 45 = .ok (.ifCond .eq 28, 3) := by decide +kernel
theorem dX10_factor_48 : decode cX10_factor 48 = .ok (.aload_n 0, 1) := by decide +kernel
theorem dX10_factor_49 : decode cX10_factor 49 = .ok (.iload_n 1, 1) := by decide +kernel
theorem dX10_factor_50 : decode cX10_factor 50 = .ok (.iconst 1, 1) := by decide +kernel
theorem dX10_factor_51 : decode cX10_factor 51 = .ok (.iadd, 1) := by decide +kernel
theorem dX10_factor_52 : decode cX10_factor 52 = .ok (.invokevirtual 76, 3) := by decide +kernel
theorem dX10_factor_55 : decode cX10_factor 55 = .ok (.ifCond .eq 16, 3) := by decide +kernel
theorem dX10_factor_58 : decode cX10_factor 58 = .ok (.aload_n 0, 1) := by decide +kernel
theorem dX10_factor_59 : decode cX10_factor 59 = .ok (.bipush 41, 2) := by decide +kernel
theorem dX10_factor_61 : decode cX10_factor 61 = .ok (.invokevirtual 47, 3) := by decide +kernel
theorem dX10_factor_64 : decode cX10_factor 64 = .ok (.ifCond .eq 7, 3) := by decide +kernel
theorem dX10_factor_67 : decode cX10_factor 67 = .ok (.iconst 1, 1) := by decide +kernel
theorem dX10_factor_68 : decode cX10_factor 68 = .ok (.goto 4, 3) := by decide +kernel
theorem dX10_factor_71 : decode cX10_factor 71 = .ok (.iconst 0, 1) := by decide +kernel
theorem dX10_factor_72 : decode cX10_factor 72 = .ok (.ireturn, 1) := by decide +kernel
theorem dX10_factor_73 : decode cX10_factor 73 = .ok (.aload_n 0, 1) := by decide +kernel
theorem dX10_factor_74 : decode cX10_factor 74 = .ok (.invokevirtual 110, 3) := by decide +kernel
theorem dX10_factor_77 : decode cX10_factor 77 = .ok (.ireturn, 1) := by decide +kernel
theorem dX10_test_0 : decode cX10_test 0 = .ok (.aload_n 0, 1) := by decide +kernel
theorem dX10_test_1 : decode cX10_test 1 = .ok (.ldc 113, 2) := by decide +kernel
theorem dX10_test_3 : decode cX10_test 3 = .ok (.invokevirtual 115, 3) := by decide +kernel
theorem dX10_test_6 : decode cX10_test 6 = .ok (.istore_n 1, 1) := by decide +kernel
theorem dX10_test_7 : decode cX10_test 7 = .ok (.iload_n 1, 1) := by decide +kernel
theorem dX10_test_8 : decode cX10_test 8 = .ok (.ifCond .ge 5, 3) := by decide +kernel
theorem dX10_test_11 : decode cX10_test 11 = .ok (.iconst 0, 1) := by decide +kernel
theorem dX10_test_12 : decode cX10_test 12 = .ok (.ireturn, 1) := by decide +kernel
theorem dX10_test_13 : decode cX10_test 13 = .ok (.aload_n 0, 1) := by decide +kernel
theorem dX10_test_14 : decode cX10_test 14 = .ok (.ldc 119, 2) := by decide +kernel
theorem dX10_test_16 : decode cX10_test 16 = .ok (.invokevirtual 115, 3) := by decide +kernel
theorem dX10_test_19 : decode cX10_test 19 = .ok (.istore_n 2, 1) := by decide +kernel
theorem dX10_test_20 : decode cX10_test 20 = .ok (.iload_n 2, 1) := by decide +kernel
theorem dX10_test_21 : decode cX10_test 21 = .ok (.ifCond .ge 5, 3) := by decide +kernel
theorem dX10_test_24 : decode cX10_test 24 = .ok (.iconst 0, 1) := by decide +kernel
theorem dX10_test_25 : decode cX10_test 25 = .ok (.ireturn, 1) := by decide +kernel
theorem dX10_test_26 : decode cX10_test 26 = .ok (.aload_n 0, 1) := by decide +kernel
theorem dX10_test_27 : decode cX10_test 27 = .ok (.invokevirtual 83, 3) := by decide +kernel
theorem dX10_test_30 : decode cX10_test 30 = .ok (.istore_n 3, 1) := by decide +kernel
theorem dX10_test_31 : decode cX10_test 31 = .ok (.iload_n 3, 1) := by decide +kernel
theorem dX10_test_32 : decode cX10_test 32 = .ok (.ifCond .ge 5, 3) := by decide +kernel
theorem dX10_test_35 : decode cX10_test 35 = .ok (.iconst 0, 1) := by decide +kernel
theorem dX10_test_36 : decode cX10_test 36 = .ok (.ireturn, 1) := by decide +kernel
theorem dX10_test_37 : decode cX10_test 37 = .ok (.aload_n 0, 1) := by decide +kernel
theorem dX10_test_38 : decode cX10_test 38 = .ok (.iload_n 1, 1) := by decide +kernel
theorem dX10_test_39 : decode cX10_test 39 = .ok (.iconst 3, 1) := by decide +kernel
theorem dX10_test_40 : decode cX10_test 40 = .ok (.imul, 1) := by decide +kernel
theorem dX10_test_41 : decode cX10_test 41 = .ok (.iload_n 2, 1) := by decide +kernel
theorem dX10_test_42 : decode cX10_test 42 = .ok (.iadd, 1) := by decide +kernel
theorem dX10_test_43 : decode cX10_test 43 = .ok (.bipush 100, 2) := by decide +kernel
theorem dX10_test_45 : decode cX10_test 45 = .ok (.imul, 1) := by decide +kernel
theorem dX10_test_46 : decode cX10_test 46 = .ok (.iload_n 3, 1) := by decide +kernel
theorem dX10_test_47 : decode cX10_test 47 = .ok (.iadd, 1) := by decide +kernel
theorem dX10_test_48 : decode cX10_test 48 = .ok (.invokevirtual 103, 3) := by decide +kernel
theorem dX10_test_51 : decode cX10_test 51 = .ok (.iconst 1, 1) := by decide +kernel
theorem dX10_test_52 : decode cX10_test 52 = .ok (.ireturn, 1) := by decide +kernel
theorem dX10_step_0 : decode cX10_step 0 = .ok (.aload_n 0, 1) := by decide +kernel
theorem dX10_step_1 : decode cX10_step 1 = .ok (.getfield 34, 3) := by decide +kernel
theorem dX10_step_4 : decode cX10_step 4 = .ok (.bipush 100, 2) := by decide +kernel
theorem dX10_step_6 : decode cX10_step 6 = .ok (.if_icmp .ge 23, 3) := by decide +kernel
theorem dX10_step_9 : decode cX10_step 9 = .ok (.aload_n 0, 1) := by decide +kernel
theorem dX10_step_10 : decode cX10_step 10 = .ok (.getfield 22, 3) := by decide +kernel
theorem dX10_step_13 : decode cX10_step 13 = .ok (.aload_n 0, 1) := by decide +kernel
theorem dX10_step_14 : decode cX10_step 14 = .ok (.getfield 34, 3) := by decide +kernel
theorem dX10_step_17 : decode cX10_step 17 = .ok (.iload_n 1, 1) := by decide +kernel
theorem dX10_step_18 : decode cX10_step 18 = .ok (.iastore, 1) := by decide +kernel
theorem dX10_step_19 : decode cX10_step 19 = .ok (.aload_n 0, 1) := by decide +kernel
theorem dX10_step_20 : decode cX10_step 20 = .ok (.dup, 1) := by decide +kernel
theorem dX10_step_21 : decode cX10_step 21 = .ok (.getfield 34, 3) := by decide +kernel
theorem dX10_step_24 : decode cX10_step 24 = .ok (.iconst 1, 1) := by decide +kernel
theorem dX10_step_25 : decode cX10_step 25 = .ok (.iadd, 1) := by decide +kernel
theorem dX10_step_26 : decode cX10_step 26 = .ok (.putfield 34, 3) := by decide +kernel
theorem dX10_step_29 : decode cX10_step 29 = .ok (.return_, 1) := by decide +kernel
theorem dX10_number_0 : decode cX10_number 0 = .ok (.aload_n 0, 1) := by decide +kernel
theorem dX10_number_1 : decode cX10_number 1 = .ok (.invokevirtual 72, 3) := by decide +kernel
theorem dX10_number_4 : decode cX10_number 4 = .ok (.istore_n 1, 1) := by decide +kernel
theorem dX10_number_5 : decode cX10_number 5 = .ok (.iload_n 1, 1) := by decide +kernel
theorem dX10_number_6 : decode cX10_number 6 = .ok (.ifCond .ge 5, 3) := by decide +kernel
theorem dX10_number_9 : decode cX10_number 9 = .ok (.iconst (-1), 1) := by decide +kernel
theorem dX10_number_10 : decode cX10_number 10 = .ok (.ireturn, 1) := by decide +kernel
theorem dX10_number_11 : decode cX10_number 11 = .ok (.aload_n 0, 1) := by decide +kernel
theorem dX10_number_12 : decode cX10_number 12 = .ok (.dup, 1) := by decide +kernel
theorem dX10_number_13 : decode cX10_number 13 = .ok (.getfield 44, 3) := by decide +kernel
theorem dX10_number_16 : decode cX10_number 16 = .ok (.iconst 1, 1) := by decide +kernel
theorem dX10_number_17 : decode cX10_number 17 = .ok (.iadd, 1) := by decide +kernel
theorem dX10_number_18 : decode cX10_number 18 = .ok (.putfield 44, 3) := by decide +kernel
theorem dX10_number_21 : decode cX10_number 21 = .ok (.aload_n 0, 1) := by decide +kernel
theorem dX10_number_22 : decode cX10_number 22 = .ok (.invokevirtual 72, 3) := by decide +kernel
theorem dX10_number_25 : decode cX10_number 25 = .ok (.istore_n 2, 1) := by decide +kernel
theorem dX10_number_26 : decode cX10_number 26 = .ok (.iload_n 2, 1) := by decide +kernel
theorem dX10_number_27 : decode cX10_number 27 = .ok (.ifCond .ge 5, 3) := by decide +kernel
theorem dX10_number_30 : decode cX10_number 30 = .ok (.iload_n 1, 1) := by decide +kernel
theorem dX10_number_31 : decode cX10_number 31 = .ok (.ireturn, 1) := by decide +kernel
theorem dX10_number_32 : decode cX10_number 32 = .ok (.aload_n 0, 1) := by decide +kernel
theorem dX10_number_33 : decode cX10_number 33 = .ok (.dup, 1) := by decide +kernel
theorem dX10_number_34 : decode cX10_number 34 = .ok (.getfield 44, 3) := by decide +kernel
theorem dX10_number_37 : decode cX10_number 37 = .ok (.iconst 1, 1) := by decide +kernel
theorem dX10_number_38 : decode cX10_number 38 = .ok (.iadd, 1) := by decide +kernel
theorem dX10_number_39 : decode cX10_number 39 = .ok (.putfield 44, 3) := by decide +kernel
theorem dX10_number_42 : decode cX10_number 42 = .ok (.iload_n 1, 1) := by decide +kernel
theorem dX10_number_43 : decode cX10_number 43 = .ok (.bipush 10, 2) := by decide +kernel
theorem dX10_number_45 : decode cX10_number 45 = .ok (.imul, 1) := by decide +kernel
theorem dX10_number_46 : decode cX10_number 46 = .ok (.iload_n 2, 1) := by decide +kernel
theorem dX10_number_47 : decode cX10_number 47 = .ok (.iadd, 1) := by decide +kernel
theorem dX10_number_48 : decode cX10_number 48 = .ok (.ireturn, 1) := by decide +kernel
theorem dX10_digit_0 : decode cX10_digit 0 = .ok (.aload_n 0, 1) := by decide +kernel
theorem dX10_digit_1 : decode cX10_digit 1 = .ok (.getfield 44, 3) := by decide +kernel
theorem dX10_digit_4 : decode cX10_digit 4 = .ok (.aload_n 0, 1) := by decide +kernel
theorem dX10_digit_5 : decode cX10_digit 5 = .ok (.getfield 41, 3) := by decide +kernel
theorem dX10_digit_8 : decode cX10_digit 8 = .ok (.if_icmp .ge 31, 3) := by decide +kernel
theorem dX10_digit_11 : decode cX10_digit 11 = .ok (.aload_n 0, 1) := by decide +kernel
theorem dX10_digit_12 : decode cX10_digit 12 = .ok (.getfield 37, 3) := by decide +kernel
theorem dX10_digit_15 : decode cX10_digit 15 = .ok (.aload_n 0, 1) := by decide +kernel
theorem dX10_digit_16 : decode cX10_digit 16 = .ok (.getfield 44, 3) := by decide +kernel
theorem dX10_digit_19 : decode cX10_digit 19 = .ok (.baload, 1) := by decide +kernel
theorem dX10_digit_20 : decode cX10_digit 20 = .ok (.bipush 48, 2) := by decide +kernel
theorem dX10_digit_22 : decode cX10_digit 22 = .ok (.if_icmp .lt 17, 3) := by decide +kernel
theorem dX10_digit_25 : decode cX10_digit 25 = .ok (.aload_n 0, 1) := by decide +kernel
theorem dX10_digit_26 : decode cX10_digit 26 = .ok (.getfield 37, 3) := by decide +kernel
theorem dX10_digit_29 : decode cX10_digit 29 = .ok (.aload_n 0, 1) := by decide +kernel
theorem dX10_digit_30 : decode cX10_digit 30 = .ok (.getfield 44, 3) := by decide +kernel
theorem dX10_digit_33 : decode cX10_digit 33 = .ok (.baload, 1) := by decide +kernel
theorem dX10_digit_34 : decode cX10_digit 34 = .ok (.bipush 57, 2) := by decide +kernel
theorem dX10_digit_36 : decode cX10_digit 36 = .ok (.if_icmp .le 5, 3) := by decide +kernel
theorem dX10_digit_39 : decode cX10_digit 39 = .ok (.iconst (-1), 1) := by decide +kernel
theorem dX10_digit_40 : decode cX10_digit 40 = .ok (.ireturn, 1) := by decide +kernel
theorem dX10_digit_41 : decode cX10_digit 41 = .ok (.aload_n 0, 1) := by decide +kernel
theorem dX10_digit_42 : decode cX10_digit 42 = .ok (.getfield 37, 3) := by decide +kernel
theorem dX10_digit_45 : decode cX10_digit 45 = .ok (.aload_n 0, 1) := by decide +kernel
theorem dX10_digit_46 : decode cX10_digit 46 = .ok (.getfield 44, 3) := by decide +kernel
theorem dX10_digit_49 : decode cX10_digit 49 = .ok (.baload, 1) := by decide +kernel
theorem dX10_digit_50 : decode cX10_digit 50 = .ok (.bipush 48, 2) := by decide +kernel
theorem dX10_digit_52 : decode cX10_digit 52 = .ok (.isub, 1) := by decide +kernel
theorem dX10_digit_53 : decode cX10_digit 53 = .ok (.ireturn, 1) := by decide +kernel
theorem dX10_skip_0 : decode cX10_skip 0 = .ok (.aload_n 0, 1) := by decide +kernel
theorem dX10_skip_1 : decode cX10_skip 1 = .ok (.getfield 44, 3) := by decide +kernel
theorem dX10_skip_4 : decode cX10_skip 4 = .ok (.aload_n 0, 1) := by decide +kernel
theorem dX10_skip_5 : decode cX10_skip 5 = .ok (.getfield 41, 3) := by decide +kernel
theorem dX10_skip_8 : decode cX10_skip 8 = .ok (.if_icmp .ge 16, 3) := by decide +kernel
theorem dX10_skip_11 : decode cX10_skip 11 = .ok (.aload_n 0, 1) := by decide +kernel
theorem dX10_skip_12 : decode cX10_skip 12 = .ok (.getfield 37, 3) := by decide +kernel
theorem dX10_skip_15 : decode cX10_skip 15 = .ok (.aload_n 0, 1) := by decide +kernel
theorem dX10_skip_16 : decode cX10_skip 16 = .ok (.getfield 44, 3) := by decide +kernel
theorem dX10_skip_19 : decode cX10_skip 19 = .ok (.baload, 1) := by decide +kernel
theorem dX10_skip_20 : decode cX10_skip 20 = .ok (.iload_n 1, 1) := by decide +kernel
theorem dX10_skip_21 : decode cX10_skip 21 = .ok (.if_icmp .eq 5, 3) := by decide +kernel
theorem dX10_skip_24 : decode cX10_skip 24 = .ok (.iconst 0, 1) := by decide +kernel
theorem dX10_skip_25 : decode cX10_skip 25 = .ok (.ireturn, 1) := by decide +kernel
theorem dX10_skip_26 : decode cX10_skip 26 = .ok (.aload_n 0, 1) := by decide +kernel
theorem dX10_skip_27 : decode cX10_skip 27 = .ok (.dup, 1) := by decide +kernel
theorem dX10_skip_28 : decode cX10_skip 28 = .ok (.getfield 44, 3) := by decide +kernel
theorem dX10_skip_31 : decode cX10_skip 31 = .ok (.iconst 1, 1) := by decide +kernel
theorem dX10_skip_32 : decode cX10_skip 32 = .ok (.iadd, 1) := by decide +kernel
theorem dX10_skip_33 : decode cX10_skip 33 = .ok (.putfield 44, 3) := by decide +kernel
theorem dX10_skip_36 : decode cX10_skip 36 = .ok (.iconst 1, 1) := by decide +kernel
theorem dX10_skip_37 : decode cX10_skip 37 = .ok (.ireturn, 1) := by decide +kernel
theorem dX10_word_0 : decode cX10_word 0 = .ok (.iconst 0, 1) := by decide +kernel
theorem dX10_word_1 : decode cX10_word 1 = .ok (.istore_n 2, 1) := by decide +kernel
theorem dX10_word_2 : decode cX10_word 2 = .ok (.iload_n 2, 1) := by decide +kernel
theorem dX10_word_3 : decode cX10_word 3 = .ok (.aload_n 1, 1) := by decide +kernel
theorem dX10_word_4 : decode cX10_word 4 = .ok (.invokevirtual 121, 3) := by decide +kernel
theorem dX10_word_7 : decode cX10_word 7 = .ok (.if_icmp .ge 23, 3) := by decide +kernel
theorem dX10_word_10 : decode cX10_word 10 = .ok (.aload_n 0, 1) := by decide +kernel
theorem dX10_word_11 : decode cX10_word 11 = .ok (.aload_n 1, 1) := by decide +kernel
