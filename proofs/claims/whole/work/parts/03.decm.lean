theorem dX4_isIn_0 : decode cX4_isIn 0 = .ok (.iload_n 0, 1) := by decide +kernel
theorem dX4_isIn_1 : decode cX4_isIn 1 = .ok (.iload_n 1, 1) := by decide +kernel
theorem dX4_isIn_2 : decode cX4_isIn 2 = .ok (.if_icmp .lt 12, 3) := by decide +kernel
theorem dX4_isIn_5 : decode cX4_isIn 5 = .ok (.iload_n 0, 1) := by decide +kernel
theorem dX4_isIn_6 : decode cX4_isIn 6 = .ok (.iload_n 2, 1) := by decide +kernel
theorem dX4_isIn_7 : decode cX4_isIn 7 = .ok (.if_icmp .gt 7, 3) := by decide +kernel
theorem dX4_isIn_10 : decode cX4_isIn 10 = .ok (.iconst 1, 1) := by decide +kernel
theorem dX4_isIn_11 : decode cX4_isIn 11 = .ok (.goto 4, 3) := by decide +kernel
theorem dX4_isIn_14 : decode cX4_isIn 14 = .ok (.iconst 0, 1) := by decide +kernel
theorem dX4_isIn_15 : decode cX4_isIn 15 = .ok (.ireturn, 1) := by decide +kernel
theorem dX4_least_0 : decode cX4_least 0 = .ok (.iload_n 0, 1) := by decide +kernel
theorem dX4_least_1 : decode cX4_least 1 = .ok (.iload_n 1, 1) := by decide +kernel
theorem dX4_least_2 : decode cX4_least 2 = .ok (.if_icmp .ge 7, 3) := by decide +kernel
theorem dX4_least_5 : decode cX4_least 5 = .ok (.iload_n 0, 1) := by decide +kernel
theorem dX4_least_6 : decode cX4_least 6 = .ok (.goto 4, 3) := by decide +kernel
theorem dX4_least_9 : decode cX4_least 9 = .ok (.iload_n 1, 1) := by decide +kernel
theorem dX4_least_10 : decode cX4_least 10 = .ok (.ireturn, 1) := by decide +kernel
theorem dX4_size_0 : decode cX4_size 0 = .ok (.iload_n 0, 1) := by decide +kernel
theorem dX4_size_1 : decode cX4_size 1 = .ok (.ifCond .ge 8, 3) := by decide +kernel
theorem dX4_size_4 : decode cX4_size 4 = .ok (.iload_n 0, 1) := by decide +kernel
theorem dX4_size_5 : decode cX4_size 5 = .ok (.ineg, 1) := by decide +kernel
theorem dX4_size_6 : decode cX4_size 6 = .ok (.goto 4, 3) := by decide +kernel
theorem dX4_size_9 : decode cX4_size 9 = .ok (.iload_n 0, 1) := by decide +kernel
theorem dX4_size_10 : decode cX4_size 10 = .ok (.ireturn, 1) := by decide +kernel
theorem dX4_lays_0 : decode cX4_lays 0 = .ok (.iconst 0, 1) := by decide +kernel
theorem dX4_lays_1 : decode cX4_lays 1 = .ok (.istore_n 2, 1) := by decide +kernel
theorem dX4_lays_2 : decode cX4_lays 2 = .ok (.iload_n 2, 1) := by decide +kernel
theorem dX4_lays_3 : decode cX4_lays 3 = .ok (.bipush 47, 2) := by decide +kernel
theorem dX4_lays_5 : decode cX4_lays 5 = .ok (.if_icmp .ge 15, 3) := by decide +kernel
theorem dX4_lays_8 : decode cX4_lays 8 = .ok (.aload_n 1, 1) := by decide +kernel
theorem dX4_lays_9 : decode cX4_lays 9 = .ok (.iload_n 2, 1) := by decide +kernel
theorem dX4_lays_10 : decode cX4_lays 10 = .ok (.aload_n 0, 1) := by decide +kernel
theorem dX4_lays_11 : decode cX4_lays 11 = .ok (.iload_n 2, 1) := by decide +kernel
theorem dX4_lays_12 : decode cX4_lays 12 = .ok (.iaload, 1) := by decide +kernel
theorem dX4_lays_13 : decode cX4_lays 13 = .ok (.iastore, 1) := by decide +kernel
theorem dX4_lays_14 : decode cX4_lays 14 = .ok (.iinc 2 1, 3) := by decide +kernel
theorem dX4_lays_17 : decode cX4_lays 17 = .ok (.goto (-15), 3) := by decide +kernel
theorem dX4_lays_20 : decode cX4_lays 20 = .ok (.return_, 1) := by decide +kernel
theorem dX4_no_0 : decode cX4_no 0 = .ok (.aload_n 0, 1) := by decide +kernel
theorem dX4_no_1 : decode cX4_no 1 = .ok (.getfield 28, 3) := by decide +kernel
theorem dX4_no_4 : decode cX4_no 4 = .ok (.iload_n 1, 1) := by decide +kernel
theorem dX4_no_5 : decode cX4_no 5 = .ok (.ineg, 1) := by decide +kernel
theorem dX4_no_6 : decode cX4_no 6 = .ok (.dup2, 1) := by decide +kernel
theorem dX4_no_7 : decode cX4_no 7 = .ok (.iaload, 1) := by decide +kernel
theorem dX4_no_8 : decode cX4_no 8 = .ok (.iconst 1, 1) := by decide +kernel
theorem dX4_no_9 : decode cX4_no 9 = .ok (.iadd, 1) := by decide +kernel
theorem dX4_no_10 : decode cX4_no 10 = .ok (.iastore, 1) := by decide +kernel
theorem dX4_no_11 : decode cX4_no 11 = .ok (.iload_n 1, 1) := by decide +kernel
theorem dX4_no_12 : decode cX4_no 12 = .ok (.ireturn, 1) := by decide +kernel
theorem dX4_noWide_0 : decode cX4_noWide 0 = .ok (.ldc2_w 34, 3) := by decide +kernel
theorem dX4_noWide_3 : decode cX4_noWide 3 = .ok (.aload_n 0, 1) := by decide +kernel
theorem dX4_noWide_4 : decode cX4_noWide 4 = .ok (.iload_n 1, 1) := by decide +kernel
theorem dX4_noWide_5 : decode cX4_noWide 5 = .ok (.invokevirtual 36, 3) := by decide +kernel
theorem dX4_noWide_8 : decode cX4_noWide 8 = .ok (.i2l, 1) := by decide +kernel
theorem dX4_noWide_9 : decode cX4_noWide 9 = .ok (.lsub, 1) := by decide +kernel
theorem dX4_noWide_10 : decode cX4_noWide 10 = .ok (.lreturn, 1) := by decide +kernel
theorem dX4_isCask_0 : decode cX4_isCask 0 = .ok (.iload_n 1, 1) := by decide +kernel
theorem dX4_isCask_1 : decode cX4_isCask 1 = .ok (.iconst 0, 1) := by decide +kernel
theorem dX4_isCask_2 : decode cX4_isCask 2 = .ok (.aload_n 0, 1) := by decide +kernel
theorem dX4_isCask_3 : decode cX4_isCask 3 = .ok (.getfield 9, 3) := by decide +kernel
theorem dX4_isCask_6 : decode cX4_isCask 6 = .ok (.iconst 0, 1) := by decide +kernel
theorem dX4_isCask_7 : decode cX4_isCask 7 = .ok (.iaload, 1) := by decide +kernel
theorem dX4_isCask_8 : decode cX4_isCask 8 = .ok (.iconst 1, 1) := by decide +kernel
theorem dX4_isCask_9 : decode cX4_isCask 9 = .ok (.isub, 1) := by decide +kernel
theorem dX4_isCask_10 : decode cX4_isCask 10 = .ok (.invokestatic 40, 3) := by decide +kernel
theorem dX4_isCask_13 : decode cX4_isCask 13 = .ok (.ireturn, 1) := by decide +kernel
theorem dX4_at_0 : decode cX4_at 0 = .ok (.iconst 5, 1) := by decide +kernel
theorem dX4_at_1 : decode cX4_at 1 = .ok (.bipush 6, 2) := by decide +kernel
theorem dX4_at_3 : decode cX4_at 3 = .ok (.iload_n 0, 1) := by decide +kernel
theorem dX4_at_4 : decode cX4_at 4 = .ok (.imul, 1) := by decide +kernel
theorem dX4_at_5 : decode cX4_at 5 = .ok (.iadd, 1) := by decide +kernel
theorem dX4_at_6 : decode cX4_at 6 = .ok (.iload_n 1, 1) := by decide +kernel
theorem dX4_at_7 : decode cX4_at 7 = .ok (.iadd, 1) := by decide +kernel
theorem dX4_at_8 : decode cX4_at 8 = .ok (.ireturn, 1) := by decide +kernel
theorem dX4_takesOf_0 : decode cX4_takesOf 0 = .ok (.iload_n 2, 1) := by decide +kernel
theorem dX4_takesOf_1 : decode cX4_takesOf 1 = .ok (.iload_n 3, 1) := by decide +kernel
theorem dX4_takesOf_2 : decode cX4_takesOf 2 = .ok (.imul, 1) := by decide +kernel
theorem dX4_takesOf_3 : decode cX4_takesOf 3 = .ok (.bipush 100, 2) := by decide +kernel
theorem dX4_takesOf_5 : decode cX4_takesOf 5 = .ok (.idiv, 1) := by decide +kernel
theorem dX4_takesOf_6 : decode cX4_takesOf 6 = .ok (.istore 4, 2) := by decide +kernel
theorem dX4_takesOf_8 : decode cX4_takesOf 8 = .ok (.aload_n 0, 1) := by decide +kernel
theorem dX4_takesOf_9 : decode cX4_takesOf 9 = .ok (.iload_n 1, 1) := by decide +kernel
theorem dX4_takesOf_10 : decode cX4_takesOf 10 = .ok (.iconst 0, 1) := by decide +kernel
theorem dX4_takesOf_11 : decode cX4_takesOf 11 = .ok (.invokestatic 44, 3) := by decide +kernel
theorem dX4_takesOf_14 : decode cX4_takesOf 14 = .ok (.iaload, 1) := by decide +kernel
theorem dX4_takesOf_15 : decode cX4_takesOf 15 = .ok (.tableswitch 80 1 5 #[33, 80, 38, 40, 55], 33) := by decide +kernel
theorem dX4_takesOf_48 : decode cX4_takesOf 48 = .ok (.iload 4, 2) := by decide +kernel
theorem dX4_takesOf_50 : decode cX4_takesOf 50 = .ok (.iconst 2, 1) := by decide +kernel
theorem dX4_takesOf_51 : decode cX4_takesOf 51 = .ok (.idiv, 1) := by decide +kernel
theorem dX4_takesOf_52 : decode cX4_takesOf 52 = .ok (.ireturn, 1) := by decide +kernel
theorem dX4_takesOf_53 : decode cX4_takesOf 53 = .ok (.iconst 0, 1) := by decide +kernel
theorem dX4_takesOf_54 : decode cX4_takesOf 54 = .ok (.ireturn, 1) := by decide +kernel
theorem dX4_takesOf_55 : decode cX4_takesOf 55 = .ok (.iload_n 2, 1) := by decide +kernel
theorem dX4_takesOf_56 : decode cX4_takesOf 56 = .ok (.iload 4, 2) := by decide +kernel
theorem dX4_takesOf_58 : decode cX4_takesOf 58 = .ok (.aload_n 0, 1) := by decide +kernel
theorem dX4_takesOf_59 : decode cX4_takesOf 59 = .ok (.iload_n 1, 1) := by decide +kernel
theorem dX4_takesOf_60 : decode cX4_takesOf 60 = .ok (.iconst 4, 1) := by decide +kernel
theorem dX4_takesOf_61 : decode cX4_takesOf 61 = .ok (.invokestatic 44, 3) := by decide +kernel
theorem dX4_takesOf_64 : decode cX4_takesOf 64 = .ok (.iaload, 1) := by decide +kernel
theorem dX4_takesOf_65 : decode cX4_takesOf 65 = .ok (.iadd, 1) := by decide +kernel
theorem dX4_takesOf_66 : decode cX4_takesOf 66 = .ok (.invokestatic 48, 3) := by decide +kernel
theorem dX4_takesOf_69 : decode cX4_takesOf 69 = .ok (.ireturn, 1) := by decide +kernel
theorem dX4_takesOf_70 : decode cX4_takesOf 70 = .ok (.iload_n 2, 1) := by decide +kernel
theorem dX4_takesOf_71 : decode cX4_takesOf 71 = .ok (.aload_n 0, 1) := by decide +kernel
theorem dX4_takesOf_72 : decode cX4_takesOf 72 = .ok (.iload_n 1, 1) := by decide +kernel
theorem dX4_takesOf_73 : decode cX4_takesOf 73 = .ok (.iconst 5, 1) := by decide +kernel
theorem dX4_takesOf_74 : decode cX4_takesOf 74 = .ok (.invokestatic 44, 3) := by decide +kernel
theorem dX4_takesOf_77 : decode cX4_takesOf 77 = .ok (.iaload, 1) := by decide +kernel
theorem dX4_takesOf_78 : decode cX4_takesOf 78 = .ok (.iload_n 2, 1) := by decide +kernel
theorem dX4_takesOf_79 : decode cX4_takesOf 79 = .ok (.if_icmp .le 10, 3) := by decide +kernel
theorem dX4_takesOf_82 : decode cX4_takesOf 82 = .ok (.iconst 2, 1) := by decide +kernel
theorem dX4_takesOf_83 : decode cX4_takesOf 83 = .ok (.iload 4, 2) := by decide +kernel
theorem dX4_takesOf_85 : decode cX4_takesOf 85 = .ok (.imul, 1) := by decide +kernel
theorem dX4_takesOf_86 : decode cX4_takesOf 86 = .ok (.goto 5, 3) := by decide +kernel
theorem dX4_takesOf_89 : decode cX4_takesOf 89 = .ok (.iload 4, 2) := by decide +kernel
theorem dX4_takesOf_91 : decode cX4_takesOf 91 = .ok (.invokestatic 48, 3) := by decide +kernel
theorem dX4_takesOf_94 : decode cX4_takesOf 94 = .ok (.ireturn, 1) := by decide +kernel
theorem dX4_takesOf_95 : decode cX4_takesOf 95 = .ok (.iload 4, 2) := by decide +kernel
theorem dX4_takesOf_97 : decode cX4_takesOf 97 = .ok (.ireturn, 1) := by decide +kernel
theorem dX4_strengthOf_0 : decode cX4_strengthOf 0 = .ok (.aload_n 0, 1) := by decide +kernel
theorem dX4_strengthOf_1 : decode cX4_strengthOf 1 = .ok (.iload_n 1, 1) := by decide +kernel
theorem dX4_strengthOf_2 : decode cX4_strengthOf 2 = .ok (.iconst 3, 1) := by decide +kernel
theorem dX4_strengthOf_3 : decode cX4_strengthOf 3 = .ok (.invokestatic 44, 3) := by decide +kernel
theorem dX4_strengthOf_6 : decode cX4_strengthOf 6 = .ok (.iaload, 1) := by decide +kernel
theorem dX4_strengthOf_7 : decode cX4_strengthOf 7 = .ok (.istore_n 3, 1) := by decide +kernel
theorem dX4_strengthOf_8 : decode cX4_strengthOf 8 = .ok (.aload_n 0, 1) := by decide +kernel
theorem dX4_strengthOf_9 : decode cX4_strengthOf 9 = .ok (.iload_n 1, 1) := by decide +kernel
theorem dX4_strengthOf_10 : decode cX4_strengthOf 10 = .ok (.iconst 0, 1) := by decide +kernel
theorem dX4_strengthOf_11 : decode cX4_strengthOf 11 = .ok (.invokestatic 44, 3) := by decide +kernel
theorem dX4_strengthOf_14 : decode cX4_strengthOf 14 = .ok (.iaload, 1) := by decide +kernel
theorem dX4_strengthOf_15 : decode cX4_strengthOf 15 = .ok (.tableswitch 73 1 5 #[33, 45, 73, 45, 64], 33) := by decide +kernel
theorem dX4_strengthOf_48 : decode cX4_strengthOf 48 = .ok (.iload_n 3, 1) := by decide +kernel
theorem dX4_strengthOf_49 : decode cX4_strengthOf 49 = .ok (.ifCond .le 9, 3) := by decide +kernel
theorem dX4_strengthOf_52 : decode cX4_strengthOf 52 = .ok (.iload_n 3, 1) := by decide +kernel
theorem dX4_strengthOf_53 : decode cX4_strengthOf 53 = .ok (.iconst 1, 1) := by decide +kernel
theorem dX4_strengthOf_54 : decode cX4_strengthOf 54 = .ok (.isub, 1) := by decide +kernel
theorem dX4_strengthOf_55 : decode cX4_strengthOf 55 = .ok (.goto 4, 3) := by decide +kernel
theorem dX4_strengthOf_58 : decode cX4_strengthOf 58 = .ok (.iconst 0, 1) := by decide +kernel
theorem dX4_strengthOf_59 : decode cX4_strengthOf 59 = .ok (.ireturn, 1) := by decide +kernel
theorem dX4_strengthOf_60 : decode cX4_strengthOf 60 = .ok (.iload_n 2, 1) := by decide +kernel
theorem dX4_strengthOf_61 : decode cX4_strengthOf 61 = .ok (.iconst 5, 1) := by decide +kernel
theorem dX4_strengthOf_62 : decode cX4_strengthOf 62 = .ok (.irem, 1) := by decide +kernel
theorem dX4_strengthOf_63 : decode cX4_strengthOf 63 = .ok (.ifCond .ne 14, 3) := by decide +kernel
theorem dX4_strengthOf_66 : decode cX4_strengthOf 66 = .ok (.bipush 99, 2) := by decide +kernel
theorem dX4_strengthOf_68 : decode cX4_strengthOf 68 = .ok (.iload_n 3, 1) := by decide +kernel
theorem dX4_strengthOf_69 : decode cX4_strengthOf 69 = .ok (.iconst 1, 1) := by decide +kernel
theorem dX4_strengthOf_70 : decode cX4_strengthOf 70 = .ok (.iadd, 1) := by decide +kernel
theorem dX4_strengthOf_71 : decode cX4_strengthOf 71 = .ok (.invokestatic 48, 3) := by decide +kernel
theorem dX4_strengthOf_74 : decode cX4_strengthOf 74 = .ok (.goto 4, 3) := by decide +kernel
theorem dX4_strengthOf_77 : decode cX4_strengthOf 77 = .ok (.iload_n 3, 1) := by decide +kernel
theorem dX4_strengthOf_78 : decode cX4_strengthOf 78 = .ok (.ireturn, 1) := by decide +kernel
theorem dX4_strengthOf_79 : decode cX4_strengthOf 79 = .ok (.bipush 99, 2) := by decide +kernel
theorem dX4_strengthOf_81 : decode cX4_strengthOf 81 = .ok (.iload_n 3, 1) := by decide +kernel
theorem dX4_strengthOf_82 : decode cX4_strengthOf 82 = .ok (.iconst 1, 1) := by decide +kernel
theorem dX4_strengthOf_83 : decode cX4_strengthOf 83 = .ok (.iadd, 1) := by decide +kernel
theorem dX4_strengthOf_84 : decode cX4_strengthOf 84 = .ok (.invokestatic 48, 3) := by decide +kernel
theorem dX4_strengthOf_87 : decode cX4_strengthOf 87 = .ok (.ireturn, 1) := by decide +kernel
theorem dX4_strengthOf_88 : decode cX4_strengthOf 88 = .ok (.iload_n 3, 1) := by decide +kernel
theorem dX4_strengthOf_89 : decode cX4_strengthOf 89 = .ok (.ireturn, 1) := by decide +kernel
theorem dX4_backOf_0 : decode cX4_backOf 0 = .ok (.aload_n 0, 1) := by decide +kernel
theorem dX4_backOf_1 : decode cX4_backOf 1 = .ok (.iload_n 1, 1) := by decide +kernel
theorem dX4_backOf_2 : decode cX4_backOf 2 = .ok (.iconst 5, 1) := by decide +kernel
theorem dX4_backOf_3 : decode cX4_backOf 3 = .ok (.invokestatic 44, 3) := by decide +kernel
theorem dX4_backOf_6 : decode cX4_backOf 6 = .ok (.iaload, 1) := by decide +kernel
theorem dX4_backOf_7 : decode cX4_backOf 7 = .ok (.istore_n 2, 1) := by decide +kernel
theorem dX4_backOf_8 : decode cX4_backOf 8 = .ok (.aload_n 0, 1) := by decide +kernel
theorem dX4_backOf_9 : decode cX4_backOf 9 = .ok (.iload_n 1, 1) := by decide +kernel
theorem dX4_backOf_10 : decode cX4_backOf 10 = .ok (.iconst 0, 1) := by decide +kernel
theorem dX4_backOf_11 : decode cX4_backOf 11 = .ok (.invokestatic 44, 3) := by decide +kernel
theorem dX4_backOf_14 : decode cX4_backOf 14 = .ok (.iaload, 1) := by decide +kernel
theorem dX4_backOf_15 : decode cX4_backOf 15 = .ok (.tableswitch 64 0 4 #[33, 64, 37, 64, 60], 33) := by decide +kernel
theorem dX4_backOf_48 : decode cX4_backOf 48 = .ok (.iload_n 2, 1) := by decide +kernel
theorem dX4_backOf_49 : decode cX4_backOf 49 = .ok (.iconst 2, 1) := by decide +kernel
theorem dX4_backOf_50 : decode cX4_backOf 50 = .ok (.idiv, 1) := by decide +kernel
theorem dX4_backOf_51 : decode cX4_backOf 51 = .ok (.ireturn, 1) := by decide +kernel
theorem dX4_backOf_52 : decode cX4_backOf 52 = .ok (.iload_n 2, 1) := by decide +kernel
theorem dX4_backOf_53 : decode cX4_backOf 53 = .ok (.aload_n 0, 1) := by decide +kernel
theorem dX4_backOf_54 : decode cX4_backOf 54 = .ok (.iload_n 1, 1) := by decide +kernel
theorem dX4_backOf_55 : decode cX4_backOf 55 = .ok (.iconst 4, 1) := by decide +kernel
theorem dX4_backOf_56 : decode cX4_backOf 56 = .ok (.invokestatic 44, 3) := by decide +kernel
theorem dX4_backOf_59 : decode cX4_backOf 59 = .ok (.iaload, 1) := by decide +kernel
theorem dX4_backOf_60 : decode cX4_backOf 60 = .ok (.if_icmp .lt 13, 3) := by decide +kernel
theorem dX4_backOf_63 : decode cX4_backOf 63 = .ok (.aload_n 0, 1) := by decide +kernel
theorem dX4_backOf_64 : decode cX4_backOf 64 = .ok (.iload_n 1, 1) := by decide +kernel
theorem dX4_backOf_65 : decode cX4_backOf 65 = .ok (.iconst 4, 1) := by decide +kernel
theorem dX4_backOf_66 : decode cX4_backOf 66 = .ok (.invokestatic 44, 3) := by decide +kernel
theorem dX4_backOf_69 : decode cX4_backOf 69 = .ok (.iaload, 1) := by decide +kernel
theorem dX4_backOf_70 : decode cX4_backOf 70 = .ok (.goto 4, 3) := by decide +kernel
theorem dX4_backOf_73 : decode cX4_backOf 73 = .ok (.iconst 0, 1) := by decide +kernel
theorem dX4_backOf_74 : decode cX4_backOf 74 = .ok (.ireturn, 1) := by decide +kernel
theorem dX4_backOf_75 : decode cX4_backOf 75 = .ok (.iload_n 2, 1) := by decide +kernel
theorem dX4_backOf_76 : decode cX4_backOf 76 = .ok (.iconst 3, 1) := by decide +kernel
theorem dX4_backOf_77 : decode cX4_backOf 77 = .ok (.idiv, 1) := by decide +kernel
theorem dX4_backOf_78 : decode cX4_backOf 78 = .ok (.ireturn, 1) := by decide +kernel
theorem dX4_backOf_79 : decode cX4_backOf 79 = .ok (.iconst 0, 1) := by decide +kernel
theorem dX4_backOf_80 : decode cX4_backOf 80 = .ok (.ireturn, 1) := by decide +kernel
theorem dX4_yearBy_0 : decode cX4_yearBy 0 = .ok (.aload_n 1, 1) := by decide +kernel
theorem dX4_yearBy_1 : decode cX4_yearBy 1 = .ok (.iconst 1, 1) := by decide +kernel
theorem dX4_yearBy_2 : decode cX4_yearBy 2 = .ok (.dup2, 1) := by decide +kernel
theorem dX4_yearBy_3 : decode cX4_yearBy 3 = .ok (.iaload, 1) := by decide +kernel
theorem dX4_yearBy_4 : decode cX4_yearBy 4 = .ok (.iconst 1, 1) := by decide +kernel
theorem dX4_yearBy_5 : decode cX4_yearBy 5 = .ok (.iadd, 1) := by decide +kernel
theorem dX4_yearBy_6 : decode cX4_yearBy 6 = .ok (.iastore, 1) := by decide +kernel
theorem dX4_yearBy_7 : decode cX4_yearBy 7 = .ok (.iload_n 2, 1) := by decide +kernel
theorem dX4_yearBy_8 : decode cX4_yearBy 8 = .ok (.ifCond .eq 16, 3) := by decide +kernel
theorem dX4_yearBy_11 : decode cX4_yearBy 11 = .ok (.bipush 80, 2) := by decide +kernel
theorem dX4_yearBy_13 : decode cX4_yearBy 13 = .ok (.iconst 2, 1) := by decide +kernel
theorem dX4_yearBy_14 : decode cX4_yearBy 14 = .ok (.aload_n 1, 1) := by decide +kernel
theorem dX4_yearBy_15 : decode cX4_yearBy 15 = .ok (.iconst 2, 1) := by decide +kernel
theorem dX4_yearBy_16 : decode cX4_yearBy 16 = .ok (.iaload, 1) := by decide +kernel
theorem dX4_yearBy_17 : decode cX4_yearBy 17 = .ok (.imul, 1) := by decide +kernel
theorem dX4_yearBy_18 : decode cX4_yearBy 18 = .ok (.invokestatic 48, 3) := by decide +kernel
theorem dX4_yearBy_21 : decode cX4_yearBy 21 = .ok (.goto 6, 3) := by decide +kernel
theorem dX4_yearBy_24 : decode cX4_yearBy 24 = .ok (.aload_n 1, 1) := by decide +kernel
theorem dX4_yearBy_25 : decode cX4_yearBy 25 = .ok (.iconst 2, 1) := by decide +kernel
theorem dX4_yearBy_26 : decode cX4_yearBy 26 = .ok (.iaload, 1) := by decide +kernel
theorem dX4_yearBy_27 : decode cX4_yearBy 27 = .ok (.istore_n 3, 1) := by decide +kernel
theorem dX4_yearBy_28 : decode cX4_yearBy 28 = .ok (.aload_n 0, 1) := by decide +kernel
theorem dX4_yearBy_29 : decode cX4_yearBy 29 = .ok (.iconst 0, 1) := by decide +kernel
theorem dX4_yearBy_30 : decode cX4_yearBy 30 = .ok (.putfield 51, 3) := by decide +kernel
theorem dX4_yearBy_33 : decode cX4_yearBy 33 = .ok (.aload_n 0, 1) := by decide +kernel
theorem dX4_yearBy_34 : decode cX4_yearBy 34 = .ok (.iconst 0, 1) := by decide +kernel
theorem dX4_yearBy_35 : decode cX4_yearBy 35 = .ok (.putfield 55, 3) := by decide +kernel
theorem dX4_yearBy_38 : decode cX4_yearBy 38 = .ok (.iconst 0, 1) := by decide +kernel
theorem dX4_yearBy_39 : decode cX4_yearBy 39 = .ok (.istore 4, 2) := by decide +kernel
theorem dX4_yearBy_41 : decode cX4_yearBy 41 = .ok (.iload 4, 2) := by decide +kernel
theorem dX4_yearBy_43 : decode cX4_yearBy 43 = .ok (.aload_n 1, 1) := by decide +kernel
theorem dX4_yearBy_44 : decode cX4_yearBy 44 = .ok (.iconst 0, 1) := by decide +kernel
theorem dX4_yearBy_45 : decode cX4_yearBy 45 = .ok (.iaload, 1) := by decide +kernel
theorem dX4_yearBy_46 : decode cX4_yearBy 46 = .ok (.if_icmp .ge 157, 3) := by decide +kernel
theorem dX4_yearBy_49 : decode cX4_yearBy 49 = .ok (.aload_n 1, 1) := by decide +kernel
theorem dX4_yearBy_50 : decode cX4_yearBy 50 = .ok (.iload 4, 2) := by decide +kernel
theorem dX4_yearBy_52 : decode cX4_yearBy 52 = .ok (.aload_n 1, 1) := by decide +kernel
theorem dX4_yearBy_53 : decode cX4_yearBy 53 = .ok (.iload 4, 2) := by decide +kernel
theorem dX4_yearBy_55 : decode cX4_yearBy 55 = .ok (.iconst 2, 1) := by decide +kernel
theorem dX4_yearBy_56 : decode cX4_yearBy 56 = .ok (.invokestatic 44, 3) := by decide +kernel
theorem dX4_yearBy_59 : decode cX4_yearBy 59 = .ok (.iaload, 1) := by decide +kernel
theorem dX4_yearBy_60 : decode cX4_yearBy 60 = .ok (.iload_n 3, 1) := by decide +kernel
theorem dX4_yearBy_61 : decode cX4_yearBy 61 = .ok (.invokestatic 58, 3) := by decide +kernel
theorem dX4_yearBy_64 : decode cX4_yearBy 64 = .ok (.istore 5, 2) := by decide +kernel
theorem dX4_yearBy_66 : decode cX4_yearBy 66 = .ok (.aload_n 1, 1) := by decide +kernel
theorem dX4_yearBy_67 : decode cX4_yearBy 67 = .ok (.iload 4, 2) := by decide +kernel
theorem dX4_yearBy_69 : decode cX4_yearBy 69 = .ok (.iconst 2, 1) := by decide +kernel
theorem dX4_yearBy_70 : decode cX4_yearBy 70 = .ok (.invokestatic 44, 3) := by decide +kernel
theorem dX4_yearBy_73 : decode cX4_yearBy 73 = .ok (.dup2, 1) := by decide +kernel
theorem dX4_yearBy_74 : decode cX4_yearBy 74 = .ok (.iaload, 1) := by decide +kernel
theorem dX4_yearBy_75 : decode cX4_yearBy 75 = .ok (.iload 5, 2) := by decide +kernel
theorem dX4_yearBy_77 : decode cX4_yearBy 77 = .ok (.isub, 1) := by decide +kernel
theorem dX4_yearBy_78 : decode cX4_yearBy 78 = .ok (.iastore, 1) := by decide +kernel
theorem dX4_yearBy_79 : decode cX4_yearBy 79 = .ok (.aload_n 1, 1) := by decide +kernel
theorem dX4_yearBy_80 : decode cX4_yearBy 80 = .ok (.iload 4, 2) := by decide +kernel
theorem dX4_yearBy_82 : decode cX4_yearBy 82 = .ok (.iconst 5, 1) := by decide +kernel
theorem dX4_yearBy_83 : decode cX4_yearBy 83 = .ok (.invokestatic 44, 3) := by decide +kernel
theorem dX4_yearBy_86 : decode cX4_yearBy 86 = .ok (.dup2, 1) := by decide +kernel
theorem dX4_yearBy_87 : decode cX4_yearBy 87 = .ok (.iaload, 1) := by decide +kernel
theorem dX4_yearBy_88 : decode cX4_yearBy 88 = .ok (.iload 5, 2) := by decide +kernel
theorem dX4_yearBy_90 : decode cX4_yearBy 90 = .ok (.iadd, 1) := by decide +kernel
theorem dX4_yearBy_91 : decode cX4_yearBy 91 = .ok (.iastore, 1) := by decide +kernel
theorem dX4_yearBy_92 : decode cX4_yearBy 92 = .ok (.aload_n 0, 1) := by decide +kernel
theorem dX4_yearBy_93 : decode cX4_yearBy 93 = .ok (.dup, 1) := by decide +kernel
theorem dX4_yearBy_94 : decode cX4_yearBy 94 = .ok (.getfield 51, 3) := by decide +kernel
theorem dX4_yearBy_97 : decode cX4_yearBy 97 = .ok (.iload 5, 2) := by decide +kernel
theorem dX4_yearBy_99 : decode cX4_yearBy 99 = .ok (.iadd, 1) := by decide +kernel
theorem dX4_yearBy_100 : decode cX4_yearBy 100 = .ok (.putfield 51, 3) := by decide +kernel
theorem dX4_yearBy_103 : decode cX4_yearBy 103 = .ok (.aload_n 1, 1) := by decide +kernel
theorem dX4_yearBy_104 : decode cX4_yearBy 104 = .ok (.iload 4, 2) := by decide +kernel
theorem dX4_yearBy_106 : decode cX4_yearBy 106 = .ok (.iconst 3, 1) := by decide +kernel
theorem dX4_yearBy_107 : decode cX4_yearBy 107 = .ok (.invokestatic 44, 3) := by decide +kernel
theorem dX4_yearBy_110 : decode cX4_yearBy 110 = .ok (.aload_n 1, 1) := by decide +kernel
theorem dX4_yearBy_111 : decode cX4_yearBy 111 = .ok (.iload 4, 2) := by decide +kernel
theorem dX4_yearBy_113 : decode cX4_yearBy 113 = .ok (.aload_n 1, 1) := by decide +kernel
theorem dX4_yearBy_114 : decode cX4_yearBy 114 = .ok (.iconst 1, 1) := by decide +kernel
theorem dX4_yearBy_115 : decode cX4_yearBy 115 = .ok (.iaload, 1) := by decide +kernel
theorem dX4_yearBy_116 : decode cX4_yearBy 116 = .ok (.invokestatic 62, 3) := by decide +kernel
theorem dX4_yearBy_119 : decode cX4_yearBy 119 = .ok (.iastore, 1) := by decide +kernel
theorem dX4_yearBy_120 : decode cX4_yearBy 120 = .ok (.aload_n 1, 1) := by decide +kernel
theorem dX4_yearBy_121 : decode cX4_yearBy 121 = .ok (.iconst 1, 1) := by decide +kernel
theorem dX4_yearBy_122 : decode cX4_yearBy 122 = .ok (.iaload, 1) := by decide +kernel
theorem dX4_yearBy_123 : decode cX4_yearBy 123 = .ok (.bipush 7, 2) := by decide +kernel
theorem dX4_yearBy_125 : decode cX4_yearBy 125 = .ok (.irem, 1) := by decide +kernel
theorem dX4_yearBy_126 : decode cX4_yearBy 126 = .ok (.ifCond .eq 6, 3) := by decide +kernel
theorem dX4_yearBy_129 : decode cX4_yearBy 129 = .ok (.goto 68, 3) := by decide +kernel
theorem dX4_yearBy_132 : decode cX4_yearBy 132 = .ok (.aload_n 1, 1) := by decide +kernel
theorem dX4_yearBy_133 : decode cX4_yearBy 133 = .ok (.iload 4, 2) := by decide +kernel
theorem dX4_yearBy_135 : decode cX4_yearBy 135 = .ok (.invokestatic 66, 3) := by decide +kernel
theorem dX4_yearBy_138 : decode cX4_yearBy 138 = .ok (.aload_n 1, 1) := by decide +kernel
theorem dX4_yearBy_139 : decode cX4_yearBy 139 = .ok (.iload 4, 2) := by decide +kernel
theorem dX4_yearBy_141 : decode cX4_yearBy 141 = .ok (.iconst 1, 1) := by decide +kernel
theorem dX4_yearBy_142 : decode cX4_yearBy 142 = .ok (.invokestatic 44, 3) := by decide +kernel
theorem dX4_yearBy_145 : decode cX4_yearBy 145 = .ok (.iaload, 1) := by decide +kernel
theorem dX4_yearBy_146 : decode cX4_yearBy 146 = .ok (.aload_n 1, 1) := by decide +kernel
theorem dX4_yearBy_147 : decode cX4_yearBy 147 = .ok (.iload 4, 2) := by decide +kernel
theorem dX4_yearBy_149 : decode cX4_yearBy 149 = .ok (.iconst 2, 1) := by decide +kernel
theorem dX4_yearBy_150 : decode cX4_yearBy 150 = .ok (.invokestatic 44, 3) := by decide +kernel
theorem dX4_yearBy_153 : decode cX4_yearBy 153 = .ok (.iaload, 1) := by decide +kernel
theorem dX4_yearBy_154 : decode cX4_yearBy 154 = .ok (.isub, 1) := by decide +kernel
theorem dX4_yearBy_155 : decode cX4_yearBy 155 = .ok (.invokestatic 48, 3) := by decide +kernel
theorem dX4_yearBy_158 : decode cX4_yearBy 158 = .ok (.istore 6, 2) := by decide +kernel
theorem dX4_yearBy_160 : decode cX4_yearBy 160 = .ok (.aload_n 1, 1) := by decide +kernel
theorem dX4_yearBy_161 : decode cX4_yearBy 161 = .ok (.iload 4, 2) := by decide +kernel
theorem dX4_yearBy_163 : decode cX4_yearBy 163 = .ok (.iconst 2, 1) := by decide +kernel
theorem dX4_yearBy_164 : decode cX4_yearBy 164 = .ok (.invokestatic 44, 3) := by decide +kernel
theorem dX4_yearBy_167 : decode cX4_yearBy 167 = .ok (.dup2, 1) := by decide +kernel
theorem dX4_yearBy_168 : decode cX4_yearBy 168 = .ok (.iaload, 1) := by decide +kernel
theorem dX4_yearBy_169 : decode cX4_yearBy 169 = .ok (.iload 6, 2) := by decide +kernel
theorem dX4_yearBy_171 : decode cX4_yearBy 171 = .ok (.iadd, 1) := by decide +kernel
theorem dX4_yearBy_172 : decode cX4_yearBy 172 = .ok (.iastore, 1) := by decide +kernel
theorem dX4_yearBy_173 : decode cX4_yearBy 173 = .ok (.aload_n 1, 1) := by decide +kernel
theorem dX4_yearBy_174 : decode cX4_yearBy 174 = .ok (.iload 4, 2) := by decide +kernel
theorem dX4_yearBy_176 : decode cX4_yearBy 176 = .ok (.iconst 5, 1) := by decide +kernel
theorem dX4_yearBy_177 : decode cX4_yearBy 177 = .ok (.invokestatic 44, 3) := by decide +kernel
theorem dX4_yearBy_180 : decode cX4_yearBy 180 = .ok (.dup2, 1) := by decide +kernel
theorem dX4_yearBy_181 : decode cX4_yearBy 181 = .ok (.iaload, 1) := by decide +kernel
theorem dX4_yearBy_182 : decode cX4_yearBy 182 = .ok (.iload 6, 2) := by decide +kernel
theorem dX4_yearBy_184 : decode cX4_yearBy 184 = .ok (.isub, 1) := by decide +kernel
theorem dX4_yearBy_185 : decode cX4_yearBy 185 = .ok (.iastore, 1) := by decide +kernel
theorem dX4_yearBy_186 : decode cX4_yearBy 186 = .ok (.aload_n 0, 1) := by decide +kernel
theorem dX4_yearBy_187 : decode cX4_yearBy 187 = .ok (.dup, 1) := by decide +kernel
theorem dX4_yearBy_188 : decode cX4_yearBy 188 = .ok (.getfield 55, 3) := by decide +kernel
theorem dX4_yearBy_191 : decode cX4_yearBy 191 = .ok (.iload 6, 2) := by decide +kernel
theorem dX4_yearBy_193 : decode cX4_yearBy 193 = .ok (.iadd, 1) := by decide +kernel
theorem dX4_yearBy_194 : decode cX4_yearBy 194 = .ok (.putfield 55, 3) := by decide +kernel
theorem dX4_yearBy_197 : decode cX4_yearBy 197 = .ok (.iinc 4 1, 3) := by decide +kernel
theorem dX4_yearBy_200 : decode cX4_yearBy 200 = .ok (.goto (-159), 3) := by decide +kernel
theorem dX4_yearBy_203 : decode cX4_yearBy 203 = .ok (.return_, 1) := by decide +kernel
theorem dX4_year_0 : decode cX4_year 0 = .ok (.aload_n 0, 1) := by decide +kernel
theorem dX4_year_1 : decode cX4_year 1 = .ok (.aload_n 1, 1) := by decide +kernel
theorem dX4_year_2 : decode cX4_year 2 = .ok (.aload_n 1, 1) := by decide +kernel
theorem dX4_year_3 : decode cX4_year 3 = .ok (.iconst 1, 1) := by decide +kernel
theorem dX4_year_4 : decode cX4_year 4 = .ok (.iaload, 1) := by decide +kernel
theorem dX4_year_5 : decode cX4_year 5 = .ok (.iconst 1, 1) := by decide +kernel
theorem dX4_year_6 : decode cX4_year 6 = .ok (.iadd, 1) := by decide +kernel
theorem dX4_year_7 : decode cX4_year 7 = .ok (.aload_n 1, 1) := by decide +kernel
theorem dX4_year_8 : decode cX4_year 8 = .ok (.iconst 3, 1) := by decide +kernel
theorem dX4_year_9 : decode cX4_year 9 = .ok (.iaload, 1) := by decide +kernel
theorem dX4_year_10 : decode cX4_year 10 = .ok (.irem, 1) := by decide +kernel
theorem dX4_year_11 : decode cX4_year 11 = .ok (.ifCond .ne 7, 3) := by decide +kernel
theorem dX4_year_14 : decode cX4_year 14 = .ok (.iconst 1, 1) := by decide +kernel
theorem dX4_year_15 : decode cX4_year 15 = .ok (.goto 4, 3) := by decide +kernel
theorem dX4_year_18 : decode cX4_year 18 = .ok (.iconst 0, 1) := by decide +kernel
theorem dX4_year_19 : decode cX4_year 19 = .ok (.invokevirtual 70, 3) := by decide +kernel
theorem dX4_year_22 : decode cX4_year 22 = .ok (.return_, 1) := by decide +kernel
theorem dX4_yearsOn_0 : decode cX4_yearsOn 0 = .ok (.iconst 0, 1) := by decide +kernel
theorem dX4_yearsOn_1 : decode cX4_yearsOn 1 = .ok (.istore_n 3, 1) := by decide +kernel
theorem dX4_yearsOn_2 : decode cX4_yearsOn 2 = .ok (.iload_n 3, 1) := by decide +kernel
theorem dX4_yearsOn_3 : decode cX4_yearsOn 3 = .ok (.iload_n 2, 1) := by decide +kernel
theorem dX4_yearsOn_4 : decode cX4_yearsOn 4 = .ok (.if_icmp .ge 14, 3) := by decide +kernel
theorem dX4_yearsOn_7 : decode cX4_yearsOn 7 = .ok (.aload_n 0, 1) := by decide +kernel
theorem dX4_yearsOn_8 : decode cX4_yearsOn 8 = .ok (.aload_n 1, 1) := by decide +kernel
theorem dX4_yearsOn_9 : decode cX4_yearsOn 9 = .ok (.invokevirtual 74, 3) := by decide +kernel
theorem dX4_yearsOn_12 : decode cX4_yearsOn 12 = .ok (.iinc 3 1, 3) := by decide +kernel
theorem dX4_yearsOn_15 : decode cX4_yearsOn 15 = .ok (.goto (-13), 3) := by decide +kernel
theorem dX4_yearsOn_18 : decode cX4_yearsOn 18 = .ok (.return_, 1) := by decide +kernel
theorem dX4_inMind_0 : decode cX4_inMind 0 = .ok (.aload_n 0, 1) := by decide +kernel
theorem dX4_inMind_1 : decode cX4_inMind 1 = .ok (.getfield 9, 3) := by decide +kernel
theorem dX4_inMind_4 : decode cX4_inMind 4 = .ok (.aload_n 0, 1) := by decide +kernel
theorem dX4_inMind_5 : decode cX4_inMind 5 = .ok (.getfield 13, 3) := by decide +kernel
theorem dX4_inMind_8 : decode cX4_inMind 8 = .ok (.invokestatic 78, 3) := by decide +kernel
theorem dX4_inMind_11 : decode cX4_inMind 11 = .ok (.aload_n 0, 1) := by decide +kernel
theorem dX4_inMind_12 : decode cX4_inMind 12 = .ok (.aload_n 0, 1) := by decide +kernel
theorem dX4_inMind_13 : decode cX4_inMind 13 = .ok (.getfield 13, 3) := by decide +kernel
theorem dX4_inMind_16 : decode cX4_inMind 16 = .ok (.iload_n 1, 1) := by decide +kernel
theorem dX4_inMind_17 : decode cX4_inMind 17 = .ok (.invokevirtual 82, 3) := by decide +kernel
theorem dX4_inMind_20 : decode cX4_inMind 20 = .ok (.return_, 1) := by decide +kernel
theorem dX4_sumOf_0 : decode cX4_sumOf 0 = .ok (.iconst 0, 1) := by decide +kernel
theorem dX4_sumOf_1 : decode cX4_sumOf 1 = .ok (.istore_n 2, 1) := by decide +kernel
theorem dX4_sumOf_2 : decode cX4_sumOf 2 = .ok (.iconst 0, 1) := by decide +kernel
theorem dX4_sumOf_3 : decode cX4_sumOf 3 = .ok (.istore_n 3, 1) := by decide +kernel
theorem dX4_sumOf_4 : decode cX4_sumOf 4 = .ok (.iload_n 3, 1) := by decide +kernel
theorem dX4_sumOf_5 : decode cX4_sumOf 5 = .ok (.aload_n 0, 1) := by decide +kernel
theorem dX4_sumOf_6 : decode cX4_sumOf 6 = .ok (.iconst 0, 1) := by decide +kernel
theorem dX4_sumOf_7 : decode cX4_sumOf 7 = .ok (.iaload, 1) := by decide +kernel
theorem dX4_sumOf_8 : decode cX4_sumOf 8 = .ok (.if_icmp .ge 19, 3) := by decide +kernel
theorem dX4_sumOf_11 : decode cX4_sumOf 11 = .ok (.iload_n 2, 1) := by decide +kernel
theorem dX4_sumOf_12 : decode cX4_sumOf 12 = .ok (.aload_n 0, 1) := by decide +kernel
theorem dX4_sumOf_13 : decode cX4_sumOf 13 = .ok (.iload_n 3, 1) := by decide +kernel
theorem dX4_sumOf_14 : decode cX4_sumOf 14 = .ok (.iload_n 1, 1) := by decide +kernel
theorem dX4_sumOf_15 : decode cX4_sumOf 15 = .ok (.invokestatic 44, 3) := by decide +kernel
theorem dX4_sumOf_18 : decode cX4_sumOf 18 = .ok (.iaload, 1) := by decide +kernel
theorem dX4_sumOf_19 : decode cX4_sumOf 19 = .ok (.iadd, 1) := by decide +kernel
theorem dX4_sumOf_20 : decode cX4_sumOf 20 = .ok (.istore_n 2, 1) := by decide +kernel
theorem dX4_sumOf_21 : decode cX4_sumOf 21 = .ok (.iinc 3 1, 3) := by decide +kernel
theorem dX4_sumOf_24 : decode cX4_sumOf 24 = .ok (.goto (-20), 3) := by decide +kernel
theorem dX4_sumOf_27 : decode cX4_sumOf 27 = .ok (.iload_n 2, 1) := by decide +kernel
theorem dX4_sumOf_28 : decode cX4_sumOf 28 = .ok (.ireturn, 1) := by decide +kernel
theorem dX4_letter_0 : decode cX4_letter 0 = .ok (.iload_n 1, 1) := by decide +kernel
theorem dX4_letter_1 : decode cX4_letter 1 = .ok (.ifCond .ge 10, 3) := by decide +kernel
theorem dX4_letter_4 : decode cX4_letter 4 = .ok (.aload_n 0, 1) := by decide +kernel
theorem dX4_letter_5 : decode cX4_letter 5 = .ok (.bipush (-4), 2) := by decide +kernel
theorem dX4_letter_7 : decode cX4_letter 7 = .ok (.invokevirtual 36, 3) := by decide +kernel
theorem dX4_letter_10 : decode cX4_letter 10 = .ok (.ireturn, 1) := by decide +kernel
theorem dX4_letter_11 : decode cX4_letter 11 = .ok (.iload_n 1, 1) := by decide +kernel
theorem dX4_letter_12 : decode cX4_letter 12 = .ok (.sipush 255, 3) := by decide +kernel
theorem dX4_letter_15 : decode cX4_letter 15 = .ok (.if_icmp .gt 12, 3) := by decide +kernel
theorem dX4_letter_18 : decode cX4_letter 18 = .ok (.aload_n 0, 1) := by decide +kernel
theorem dX4_letter_19 : decode cX4_letter 19 = .ok (.getfield 86, 3) := by decide +kernel
theorem dX4_letter_22 : decode cX4_letter 22 = .ok (.bipush 96, 2) := by decide +kernel
theorem dX4_letter_24 : decode cX4_letter 24 = .ok (.if_icmp .ne 10, 3) := by decide +kernel
theorem dX4_letter_27 : decode cX4_letter 27 = .ok (.aload_n 0, 1) := by decide +kernel
theorem dX4_letter_28 : decode cX4_letter 28 = .ok (.bipush (-6), 2) := by decide +kernel
theorem dX4_letter_30 : decode cX4_letter 30 = .ok (.invokevirtual 36, 3) := by decide +kernel
theorem dX4_letter_33 : decode cX4_letter 33 = .ok (.ireturn, 1) := by decide +kernel
theorem dX4_letter_34 : decode cX4_letter 34 = .ok (.aload_n 0, 1) := by decide +kernel
theorem dX4_letter_35 : decode cX4_letter 35 = .ok (.getfield 22, 3) := by decide +kernel
theorem dX4_letter_38 : decode cX4_letter 38 = .ok (.aload_n 0, 1) := by decide +kernel
theorem dX4_letter_39 : decode cX4_letter 39 = .ok (.getfield 86, 3) := by decide +kernel
theorem dX4_letter_42 : decode cX4_letter 42 = .ok (.iload_n 1, 1) := by decide +kernel
theorem dX4_letter_43 : decode cX4_letter 43 = .ok (.iastore, 1) := by decide +kernel
theorem dX4_letter_44 : decode cX4_letter 44 = .ok (.aload_n 0, 1) := by decide +kernel
theorem dX4_letter_45 : decode cX4_letter 45 = .ok (.dup, 1) := by decide +kernel
theorem dX4_letter_46 : decode cX4_letter 46 = .ok (.getfield 86, 3) := by decide +kernel
theorem dX4_letter_49 : decode cX4_letter 49 = .ok (.iconst 1, 1) := by decide +kernel
theorem dX4_letter_50 : decode cX4_letter 50 = .ok (.iadd, 1) := by decide +kernel
theorem dX4_letter_51 : decode cX4_letter 51 = .ok (.putfield 86, 3) := by decide +kernel
theorem dX4_letter_54 : decode cX4_letter 54 = .ok (.aload_n 0, 1) := by decide +kernel
theorem dX4_letter_55 : decode cX4_letter 55 = .ok (.getfield 86, 3) := by decide +kernel
theorem dX4_letter_58 : decode cX4_letter 58 = .ok (.ireturn, 1) := by decide +kernel
theorem dX4_here_0 : decode cX4_here 0 = .ok (.aload_n 0, 1) := by decide +kernel
theorem dX4_here_1 : decode cX4_here 1 = .ok (.getfield 89, 3) := by decide +kernel
theorem dX4_here_4 : decode cX4_here 4 = .ok (.aload_n 0, 1) := by decide +kernel
theorem dX4_here_5 : decode cX4_here 5 = .ok (.getfield 86, 3) := by decide +kernel
theorem dX4_here_8 : decode cX4_here 8 = .ok (.if_icmp .ge 15, 3) := by decide +kernel
theorem dX4_here_11 : decode cX4_here 11 = .ok (.aload_n 0, 1) := by decide +kernel
theorem dX4_here_12 : decode cX4_here 12 = .ok (.getfield 22, 3) := by decide +kernel
theorem dX4_here_15 : decode cX4_here 15 = .ok (.aload_n 0, 1) := by decide +kernel
theorem dX4_here_16 : decode cX4_here 16 = .ok (.getfield 89, 3) := by decide +kernel
theorem dX4_here_19 : decode cX4_here 19 = .ok (.iaload, 1) := by decide +kernel
theorem dX4_here_20 : decode cX4_here 20 = .ok (.goto 4, 3) := by decide +kernel
theorem dX4_here_23 : decode cX4_here 23 = .ok (.iconst (-1), 1) := by decide +kernel
theorem dX4_here_24 : decode cX4_here 24 = .ok (.ireturn, 1) := by decide +kernel
theorem dX4_readsNumber_0 : decode cX4_readsNumber 0 = .ok (.aload_n 0, 1) := by decide +kernel
theorem dX4_readsNumber_1 : decode cX4_readsNumber 1 = .ok (.getfield 31, 3) := by decide +kernel
theorem dX4_readsNumber_4 : decode cX4_readsNumber 4 = .ok (.iload_n 1, 1) := by decide +kernel
theorem dX4_readsNumber_5 : decode cX4_readsNumber 5 = .ok (.iconst 0, 1) := by decide +kernel
theorem dX4_readsNumber_6 : decode cX4_readsNumber 6 = .ok (.iastore, 1) := by decide +kernel
theorem dX4_readsNumber_7 : decode cX4_readsNumber 7 = .ok (.iconst 0, 1) := by decide +kernel
theorem dX4_readsNumber_8 : decode cX4_readsNumber 8 = .ok (.istore_n 3, 1) := by decide +kernel
theorem dX4_readsNumber_9 : decode cX4_readsNumber 9 = .ok (.iload_n 3, 1) := by decide +kernel
theorem dX4_readsNumber_10 : decode cX4_readsNumber 10 = .ok (.iload_n 2, 1) := by decide +kernel
theorem dX4_readsNumber_11 : decode cX4_readsNumber 11 = .ok (.if_icmp .ge 58, 3) := by decide +kernel
theorem dX4_readsNumber_14 : decode cX4_readsNumber 14 = .ok (.aload_n 0, 1) := by decide +kernel
theorem dX4_readsNumber_15 : decode cX4_readsNumber 15 = .ok (.invokevirtual 92, 3) := by decide +kernel
theorem dX4_readsNumber_18 : decode cX4_readsNumber 18 = .ok (.bipush 48, 2) := by decide +kernel
theorem dX4_readsNumber_20 : decode cX4_readsNumber 20 = .ok (.bipush 57, 2) := by decide +kernel
theorem dX4_readsNumber_22 : decode cX4_readsNumber 22 = .ok (.invokestatic 40, 3) := by decide +kernel
theorem dX4_readsNumber_25 : decode cX4_readsNumber 25 = .ok (.ifCond .ne 5, 3) := by decide +kernel
theorem dX4_readsNumber_28 : decode cX4_readsNumber 28 = .ok (.iconst 0, 1) := by decide +kernel
theorem dX4_readsNumber_29 : decode cX4_readsNumber 29 = .ok (.ireturn, 1) := by decide +kernel
theorem dX4_readsNumber_30 : decode cX4_readsNumber 30 = .ok (.aload_n 0, 1) := by decide +kernel
theorem dX4_readsNumber_31 : decode cX4_readsNumber 31 = .ok (.getfield 31, 3) := by decide +kernel
theorem dX4_readsNumber_34 : decode cX4_readsNumber 34 = .ok (.iload_n 1, 1) := by decide +kernel
theorem dX4_readsNumber_35 : decode cX4_readsNumber 35 = .ok (.bipush 10, 2) := by decide +kernel
theorem dX4_readsNumber_37 : decode cX4_readsNumber 37 = .ok (.aload_n 0, 1) := by decide +kernel
theorem dX4_readsNumber_38 : decode cX4_readsNumber 38 = .ok (.getfield 31, 3) := by decide +kernel
theorem dX4_readsNumber_41 : decode cX4_readsNumber 41 = .ok (.iload_n 1, 1) := by decide +kernel
theorem dX4_readsNumber_42 : decode cX4_readsNumber 42 = .ok (.iaload, 1) := by decide +kernel
theorem dX4_readsNumber_43 : decode cX4_readsNumber 43 = .ok (.imul, 1) := by decide +kernel
theorem dX4_readsNumber_44 : decode cX4_readsNumber 44 = .ok (.aload_n 0, 1) := by decide +kernel
theorem dX4_readsNumber_45 : decode cX4_readsNumber 45 = .ok (.invokevirtual 92, 3) := by decide +kernel
theorem dX4_readsNumber_48 : decode cX4_readsNumber 48 = .ok (.iadd, 1) := by decide +kernel
theorem dX4_readsNumber_49 : decode cX4_readsNumber 49 = .ok (.bipush 48, 2) := by decide +kernel
theorem dX4_readsNumber_51 : decode cX4_readsNumber 51 = .ok (.isub, 1) := by decide +kernel
theorem dX4_readsNumber_52 : decode cX4_readsNumber 52 = .ok (.iastore, 1) := by decide +kernel
theorem dX4_readsNumber_53 : decode cX4_readsNumber 53 = .ok (.aload_n 0, 1) := by decide +kernel
theorem dX4_readsNumber_54 : decode cX4_readsNumber 54 = .ok (.dup, 1) := by decide +kernel
theorem dX4_readsNumber_55 : decode cX4_readsNumber 55 = .ok (.getfield 89, 3) := by decide +kernel
theorem dX4_readsNumber_58 : decode cX4_readsNumber 58 = .ok (.iconst 1, 1) := by decide +kernel
theorem dX4_readsNumber_59 : decode cX4_readsNumber 59 = .ok (.iadd, 1) := by decide +kernel
theorem dX4_readsNumber_60 : decode cX4_readsNumber 60 = .ok (.putfield 89, 3) := by decide +kernel
theorem dX4_readsNumber_63 : decode cX4_readsNumber 63 = .ok (.iinc 3 1, 3) := by decide +kernel
theorem dX4_readsNumber_66 : decode cX4_readsNumber 66 = .ok (.goto (-57), 3) := by decide +kernel
theorem dX4_readsNumber_69 : decode cX4_readsNumber 69 = .ok (.iconst 1, 1) := by decide +kernel
theorem dX4_readsNumber_70 : decode cX4_readsNumber 70 = .ok (.ireturn, 1) := by decide +kernel
theorem dX4_kindOf_0 : decode cX4_kindOf 0 = .ok (.iload_n 0, 1) := by decide +kernel
theorem dX4_kindOf_1 : decode cX4_kindOf 1 = .ok (.tableswitch 99 98 115 #[91, 99, 99, 99, 99, 99, 97, 93, 99, 99, 99, 89, 99, 87, 99, 99, 99, 95], 87) := by decide +kernel
theorem dX4_kindOf_88 : decode cX4_kindOf 88 = .ok (.iconst 0, 1) := by decide +kernel
theorem dX4_kindOf_89 : decode cX4_kindOf 89 = .ok (.ireturn, 1) := by decide +kernel
theorem dX4_kindOf_90 : decode cX4_kindOf 90 = .ok (.iconst 1, 1) := by decide +kernel
theorem dX4_kindOf_91 : decode cX4_kindOf 91 = .ok (.ireturn, 1) := by decide +kernel
theorem dX4_kindOf_92 : decode cX4_kindOf 92 = .ok (.iconst 2, 1) := by decide +kernel
theorem dX4_kindOf_93 : decode cX4_kindOf 93 = .ok (.ireturn, 1) := by decide +kernel
theorem dX4_kindOf_94 : decode cX4_kindOf 94 = .ok (.iconst 3, 1) := by decide +kernel
theorem dX4_kindOf_95 : decode cX4_kindOf 95 = .ok (.ireturn, 1) := by decide +kernel
theorem dX4_kindOf_96 : decode cX4_kindOf 96 = .ok (.iconst 4, 1) := by decide +kernel
theorem dX4_kindOf_97 : decode cX4_kindOf 97 = .ok (.ireturn, 1) := by decide +kernel
theorem dX4_kindOf_98 : decode cX4_kindOf 98 = .ok (.iconst 5, 1) := by decide +kernel
theorem dX4_kindOf_99 : decode cX4_kindOf 99 = .ok (.ireturn, 1) := by decide +kernel
theorem dX4_kindOf_100 : decode cX4_kindOf 100 = .ok (.bipush (-9), 2) := by decide +kernel
theorem dX4_kindOf_102 : decode cX4_kindOf 102 = .ok (.ireturn, 1) := by decide +kernel
theorem dX4_readsKind_0 : decode cX4_readsKind 0 = .ok (.aload_n 0, 1) := by decide +kernel
theorem dX4_readsKind_1 : decode cX4_readsKind 1 = .ok (.getfield 31, 3) := by decide +kernel
theorem dX4_readsKind_4 : decode cX4_readsKind 4 = .ok (.iconst 0, 1) := by decide +kernel
theorem dX4_readsKind_5 : decode cX4_readsKind 5 = .ok (.aload_n 0, 1) := by decide +kernel
theorem dX4_readsKind_6 : decode cX4_readsKind 6 = .ok (.invokevirtual 92, 3) := by decide +kernel
theorem dX4_readsKind_9 : decode cX4_readsKind 9 = .ok (.invokestatic 96, 3) := by decide +kernel
theorem dX4_readsKind_12 : decode cX4_readsKind 12 = .ok (.iastore, 1) := by decide +kernel
theorem dX4_readsKind_13 : decode cX4_readsKind 13 = .ok (.aload_n 0, 1) := by decide +kernel
theorem dX4_readsKind_14 : decode cX4_readsKind 14 = .ok (.dup, 1) := by decide +kernel
theorem dX4_readsKind_15 : decode cX4_readsKind 15 = .ok (.getfield 89, 3) := by decide +kernel
theorem dX4_readsKind_18 : decode cX4_readsKind 18 = .ok (.aload_n 0, 1) := by decide +kernel
theorem dX4_readsKind_19 : decode cX4_readsKind 19 = .ok (.getfield 31, 3) := by decide +kernel
theorem dX4_readsKind_22 : decode cX4_readsKind 22 = .ok (.iconst 0, 1) := by decide +kernel
theorem dX4_readsKind_23 : decode cX4_readsKind 23 = .ok (.iaload, 1) := by decide +kernel
theorem dX4_readsKind_24 : decode cX4_readsKind 24 = .ok (.ifCond .ge 7, 3) := by decide +kernel
theorem dX4_readsKind_27 : decode cX4_readsKind 27 = .ok (.iconst 0, 1) := by decide +kernel
theorem dX4_readsKind_28 : decode cX4_readsKind 28 = .ok (.goto 4, 3) := by decide +kernel
theorem dX4_readsKind_31 : decode cX4_readsKind 31 = .ok (.iconst 1, 1) := by decide +kernel
theorem dX4_readsKind_32 : decode cX4_readsKind 32 = .ok (.iadd, 1) := by decide +kernel
theorem dX4_readsKind_33 : decode cX4_readsKind 33 = .ok (.putfield 89, 3) := by decide +kernel
theorem dX4_readsKind_36 : decode cX4_readsKind 36 = .ok (.aload_n 0, 1) := by decide +kernel
theorem dX4_readsKind_37 : decode cX4_readsKind 37 = .ok (.getfield 31, 3) := by decide +kernel
theorem dX4_readsKind_40 : decode cX4_readsKind 40 = .ok (.iconst 0, 1) := by decide +kernel
theorem dX4_readsKind_41 : decode cX4_readsKind 41 = .ok (.iaload, 1) := by decide +kernel
theorem dX4_readsKind_42 : decode cX4_readsKind 42 = .ok (.ifCond .lt 7, 3) := by decide +kernel
theorem dX4_readsKind_45 : decode cX4_readsKind 45 = .ok (.iconst 1, 1) := by decide +kernel
theorem dX4_readsKind_46 : decode cX4_readsKind 46 = .ok (.goto 4, 3) := by decide +kernel
theorem dX4_readsKind_49 : decode cX4_readsKind 49 = .ok (.iconst 0, 1) := by decide +kernel
theorem dX4_readsKind_50 : decode cX4_readsKind 50 = .ok (.ireturn, 1) := by decide +kernel
theorem dX4_readsStatement_0 : decode cX4_readsStatement 0 = .ok (.aload_n 0, 1) := by decide +kernel
theorem dX4_readsStatement_1 : decode cX4_readsStatement 1 = .ok (.invokevirtual 92, 3) := by decide +kernel
theorem dX4_readsStatement_4 : decode cX4_readsStatement 4 = .ok (.istore_n 1, 1) := by decide +kernel
theorem dX4_readsStatement_5 : decode cX4_readsStatement 5 = .ok (.aload_n 0, 1) := by decide +kernel
theorem dX4_readsStatement_6 : decode cX4_readsStatement 6 = .ok (.dup, 1) := by decide +kernel
theorem dX4_readsStatement_7 : decode cX4_readsStatement 7 = .ok (.getfield 89, 3) := by decide +kernel
theorem dX4_readsStatement_10 : decode cX4_readsStatement 10 = .ok (.iconst 1, 1) := by decide +kernel
theorem dX4_readsStatement_11 : decode cX4_readsStatement 11 = .ok (.iadd, 1) := by decide +kernel
theorem dX4_readsStatement_12 : decode cX4_readsStatement 12 = .ok (.putfield 89, 3) := by decide +kernel
theorem dX4_readsStatement_15 : decode cX4_readsStatement 15 = .ok (.iload_n 1, 1) := by decide +kernel
theorem dX4_readsStatement_16 : decode cX4_readsStatement 16 = .ok (.lookupswitch 168 #[(99, 60), (101, 122), (108, 122), (112, 132), (114, 112), (121, 112)], 60) := by decide +kernel
theorem dX4_readsStatement_76 : decode cX4_readsStatement 76 = .ok (.aload_n 0, 1) := by decide +kernel
theorem dX4_readsStatement_77 : decode cX4_readsStatement 77 = .ok (.invokevirtual 99, 3) := by decide +kernel
theorem dX4_readsStatement_80 : decode cX4_readsStatement 80 = .ok (.ifCond .eq 43, 3) := by decide +kernel
theorem dX4_readsStatement_83 : decode cX4_readsStatement 83 = .ok (.aload_n 0, 1) := by decide +kernel
theorem dX4_readsStatement_84 : decode cX4_readsStatement 84 = .ok (.iconst 1, 1) := by decide +kernel
theorem dX4_readsStatement_85 : decode cX4_readsStatement 85 = .ok (.iconst 3, 1) := by decide +kernel
theorem dX4_readsStatement_86 : decode cX4_readsStatement 86 = .ok (.invokevirtual 103, 3) := by decide +kernel
theorem dX4_readsStatement_89 : decode cX4_readsStatement 89 = .ok (.ifCond .eq 34, 3) := by decide +kernel
theorem dX4_readsStatement_92 : decode cX4_readsStatement 92 = .ok (.aload_n 0, 1) := by decide +kernel
theorem dX4_readsStatement_93 : decode cX4_readsStatement 93 = .ok (.iconst 2, 1) := by decide +kernel
theorem dX4_readsStatement_94 : decode cX4_readsStatement 94 = .ok (.iconst 3, 1) := by decide +kernel
theorem dX4_readsStatement_95 : decode cX4_readsStatement 95 = .ok (.invokevirtual 103, 3) := by decide +kernel
theorem dX4_readsStatement_98 : decode cX4_readsStatement 98 = .ok (.ifCond .eq 25, 3) := by decide +kernel
theorem dX4_readsStatement_101 : decode cX4_readsStatement 101 = .ok (.aload_n 0, 1) := by decide +kernel
theorem dX4_readsStatement_102 : decode cX4_readsStatement 102 = .ok (.iconst 3, 1) := by decide +kernel
theorem dX4_readsStatement_103 : decode cX4_readsStatement 103 = .ok (.iconst 2, 1) := by decide +kernel
theorem dX4_readsStatement_104 : decode cX4_readsStatement 104 = .ok (.invokevirtual 103, 3) := by decide +kernel
theorem dX4_readsStatement_107 : decode cX4_readsStatement 107 = .ok (.ifCond .eq 16, 3) := by decide +kernel
theorem dX4_readsStatement_110 : decode cX4_readsStatement 110 = .ok (.aload_n 0, 1) := by decide +kernel
theorem dX4_readsStatement_111 : decode cX4_readsStatement 111 = .ok (.iconst 4, 1) := by decide +kernel
theorem dX4_readsStatement_112 : decode cX4_readsStatement 112 = .ok (.iconst 1, 1) := by decide +kernel
theorem dX4_readsStatement_113 : decode cX4_readsStatement 113 = .ok (.invokevirtual 103, 3) := by decide +kernel
theorem dX4_readsStatement_116 : decode cX4_readsStatement 116 = .ok (.ifCond .eq 7, 3) := by decide +kernel
theorem dX4_readsStatement_119 : decode cX4_readsStatement 119 = .ok (.iconst 1, 1) := by decide +kernel
theorem dX4_readsStatement_120 : decode cX4_readsStatement 120 = .ok (.goto 4, 3) := by decide +kernel
theorem dX4_readsStatement_123 : decode cX4_readsStatement 123 = .ok (.iconst 0, 1) := by decide +kernel
theorem dX4_readsStatement_124 : decode cX4_readsStatement 124 = .ok (.istore_n 2, 1) := by decide +kernel
theorem dX4_readsStatement_125 : decode cX4_readsStatement 125 = .ok (.goto 71, 3) := by decide +kernel
theorem dX4_readsStatement_128 : decode cX4_readsStatement 128 = .ok (.aload_n 0, 1) := by decide +kernel
theorem dX4_readsStatement_129 : decode cX4_readsStatement 129 = .ok (.iconst 0, 1) := by decide +kernel
theorem dX4_readsStatement_130 : decode cX4_readsStatement 130 = .ok (.iconst 2, 1) := by decide +kernel
theorem dX4_readsStatement_131 : decode cX4_readsStatement 131 = .ok (.invokevirtual 103, 3) := by decide +kernel
theorem dX4_readsStatement_134 : decode cX4_readsStatement 134 = .ok (.istore_n 2, 1) := by decide +kernel
theorem dX4_readsStatement_135 : decode cX4_readsStatement 135 = .ok (.goto 61, 3) := by decide +kernel
theorem dX4_readsStatement_138 : decode cX4_readsStatement 138 = .ok (.aload_n 0, 1) := by decide +kernel
theorem dX4_readsStatement_139 : decode cX4_readsStatement 139 = .ok (.iconst 0, 1) := by decide +kernel
theorem dX4_readsStatement_140 : decode cX4_readsStatement 140 = .ok (.iconst 1, 1) := by decide +kernel
theorem dX4_readsStatement_141 : decode cX4_readsStatement 141 = .ok (.invokevirtual 103, 3) := by decide +kernel
theorem dX4_readsStatement_144 : decode cX4_readsStatement 144 = .ok (.istore_n 2, 1) := by decide +kernel
theorem dX4_readsStatement_145 : decode cX4_readsStatement 145 = .ok (.goto 51, 3) := by decide +kernel
theorem dX4_readsStatement_148 : decode cX4_readsStatement 148 = .ok (.aload_n 0, 1) := by decide +kernel
theorem dX4_readsStatement_149 : decode cX4_readsStatement 149 = .ok (.iconst 0, 1) := by decide +kernel
theorem dX4_readsStatement_150 : decode cX4_readsStatement 150 = .ok (.iconst 1, 1) := by decide +kernel
theorem dX4_readsStatement_151 : decode cX4_readsStatement 151 = .ok (.invokevirtual 103, 3) := by decide +kernel
theorem dX4_readsStatement_154 : decode cX4_readsStatement 154 = .ok (.ifCond .eq 25, 3) := by decide +kernel
theorem dX4_readsStatement_157 : decode cX4_readsStatement 157 = .ok (.aload_n 0, 1) := by decide +kernel
theorem dX4_readsStatement_158 : decode cX4_readsStatement 158 = .ok (.iconst 1, 1) := by decide +kernel
theorem dX4_readsStatement_159 : decode cX4_readsStatement 159 = .ok (.iconst 1, 1) := by decide +kernel
theorem dX4_readsStatement_160 : decode cX4_readsStatement 160 = .ok (.invokevirtual 103, 3) := by decide +kernel
theorem dX4_readsStatement_163 : decode cX4_readsStatement 163 = .ok (.ifCond .eq 16, 3) := by decide +kernel
theorem dX4_readsStatement_166 : decode cX4_readsStatement 166 = .ok (.aload_n 0, 1) := by decide +kernel
theorem dX4_readsStatement_167 : decode cX4_readsStatement 167 = .ok (.iconst 2, 1) := by decide +kernel
theorem dX4_readsStatement_168 : decode cX4_readsStatement 168 = .ok (.iconst 3, 1) := by decide +kernel
theorem dX4_readsStatement_169 : decode cX4_readsStatement 169 = .ok (.invokevirtual 103, 3) := by decide +kernel
theorem dX4_readsStatement_172 : decode cX4_readsStatement 172 = .ok (.ifCond .eq 7, 3) := by decide +kernel
theorem dX4_readsStatement_175 : decode cX4_readsStatement 175 = .ok (.iconst 1, 1) := by decide +kernel
theorem dX4_readsStatement_176 : decode cX4_readsStatement 176 = .ok (.goto 4, 3) := by decide +kernel
theorem dX4_readsStatement_179 : decode cX4_readsStatement 179 = .ok (.iconst 0, 1) := by decide +kernel
theorem dX4_readsStatement_180 : decode cX4_readsStatement 180 = .ok (.istore_n 2, 1) := by decide +kernel
theorem dX4_readsStatement_181 : decode cX4_readsStatement 181 = .ok (.goto 15, 3) := by decide +kernel
theorem dX4_readsStatement_184 : decode cX4_readsStatement 184 = .ok (.aload_n 0, 1) := by decide +kernel
theorem dX4_readsStatement_185 : decode cX4_readsStatement 185 = .ok (.dup, 1) := by decide +kernel
theorem dX4_readsStatement_186 : decode cX4_readsStatement 186 = .ok (.getfield 89, 3) := by decide +kernel
theorem dX4_readsStatement_189 : decode cX4_readsStatement 189 = .ok (.iconst 1, 1) := by decide +kernel
theorem dX4_readsStatement_190 : decode cX4_readsStatement 190 = .ok (.isub, 1) := by decide +kernel
theorem dX4_readsStatement_191 : decode cX4_readsStatement 191 = .ok (.putfield 89, 3) := by decide +kernel
theorem dX4_readsStatement_194 : decode cX4_readsStatement 194 = .ok (.iconst 0, 1) := by decide +kernel
theorem dX4_readsStatement_195 : decode cX4_readsStatement 195 = .ok (.ireturn, 1) := by decide +kernel
theorem dX4_readsStatement_196 : decode cX4_readsStatement 196 = .ok (.iload_n 2, 1) := by decide +kernel
theorem dX4_readsStatement_197 : decode cX4_readsStatement 197 = .ok (.ifCond .eq 12, 3) := by decide +kernel
theorem dX4_readsStatement_200 : decode cX4_readsStatement 200 = .ok (.aload_n 0, 1) := by decide +kernel
theorem dX4_readsStatement_201 : decode cX4_readsStatement 201 = .ok (.invokevirtual 92, 3) := by decide +kernel
theorem dX4_readsStatement_204 : decode cX4_readsStatement 204 = .ok (.bipush 59, 2) := by decide +kernel
theorem dX4_readsStatement_206 : decode cX4_readsStatement 206 = .ok (.if_icmp .eq 5, 3) := by decide +kernel
theorem dX4_readsStatement_209 : decode cX4_readsStatement 209 = .ok (.iconst 0, 1) := by decide +kernel
theorem dX4_readsStatement_210 : decode cX4_readsStatement 210 = .ok (.ireturn, 1) := by decide +kernel
theorem dX4_readsStatement_211 : decode cX4_readsStatement 211 = .ok (.aload_n 0, 1) := by decide +kernel
theorem dX4_readsStatement_212 : decode cX4_readsStatement 212 = .ok (.dup, 1) := by decide +kernel
theorem dX4_readsStatement_213 : decode cX4_readsStatement 213 = .ok (.getfield 89, 3) := by decide +kernel
theorem dX4_readsStatement_216 : decode cX4_readsStatement 216 = .ok (.iconst 1, 1) := by decide +kernel
theorem dX4_readsStatement_217 : decode cX4_readsStatement 217 = .ok (.iadd, 1) := by decide +kernel
theorem dX4_readsStatement_218 : decode cX4_readsStatement 218 = .ok (.putfield 89, 3) := by decide +kernel
theorem dX4_readsStatement_221 : decode cX4_readsStatement 221 = .ok (.iconst 1, 1) := by decide +kernel
theorem dX4_readsStatement_222 : decode cX4_readsStatement 222 = .ok (.ireturn, 1) := by decide +kernel
theorem dX4_canPour_0 : decode cX4_canPour 0 = .ok (.iload_n 3, 1) := by decide +kernel
theorem dX4_canPour_1 : decode cX4_canPour 1 = .ok (.aload_n 0, 1) := by decide +kernel
theorem dX4_canPour_2 : decode cX4_canPour 2 = .ok (.getfield 9, 3) := by decide +kernel
theorem dX4_canPour_5 : decode cX4_canPour 5 = .ok (.iload_n 1, 1) := by decide +kernel
theorem dX4_canPour_6 : decode cX4_canPour 6 = .ok (.iconst 2, 1) := by decide +kernel
theorem dX4_canPour_7 : decode cX4_canPour 7 = .ok (.invokestatic 44, 3) := by decide +kernel
theorem dX4_canPour_10 : decode cX4_canPour 10 = .ok (.iaload, 1) := by decide +kernel
theorem dX4_canPour_11 : decode cX4_canPour 11 = .ok (.if_icmp .gt 32, 3) := by decide +kernel
theorem dX4_canPour_14 : decode cX4_canPour 14 = .ok (.aload_n 0, 1) := by decide +kernel
theorem dX4_canPour_15 : decode cX4_canPour 15 = .ok (.getfield 9, 3) := by decide +kernel
theorem dX4_canPour_18 : decode cX4_canPour 18 = .ok (.iload_n 2, 1) := by decide +kernel
theorem dX4_canPour_19 : decode cX4_canPour 19 = .ok (.iconst 2, 1) := by decide +kernel
theorem dX4_canPour_20 : decode cX4_canPour 20 = .ok (.invokestatic 44, 3) := by decide +kernel
theorem dX4_canPour_23 : decode cX4_canPour 23 = .ok (.iaload, 1) := by decide +kernel
theorem dX4_canPour_24 : decode cX4_canPour 24 = .ok (.iload_n 3, 1) := by decide +kernel
theorem dX4_canPour_25 : decode cX4_canPour 25 = .ok (.iadd, 1) := by decide +kernel
theorem dX4_canPour_26 : decode cX4_canPour 26 = .ok (.aload_n 0, 1) := by decide +kernel
theorem dX4_canPour_27 : decode cX4_canPour 27 = .ok (.getfield 9, 3) := by decide +kernel
theorem dX4_canPour_30 : decode cX4_canPour 30 = .ok (.iload_n 2, 1) := by decide +kernel
theorem dX4_canPour_31 : decode cX4_canPour 31 = .ok (.iconst 1, 1) := by decide +kernel
theorem dX4_canPour_32 : decode cX4_canPour 32 = .ok (.invokestatic 44, 3) := by decide +kernel
theorem dX4_canPour_35 : decode cX4_canPour 35 = .ok (.iaload, 1) := by decide +kernel
theorem dX4_canPour_36 : decode cX4_canPour 36 = .ok (.if_icmp .gt 7, 3) := by decide +kernel
theorem dX4_canPour_39 : decode cX4_canPour 39 = .ok (.iconst 1, 1) := by decide +kernel
theorem dX4_canPour_40 : decode cX4_canPour 40 = .ok (.goto 4, 3) := by decide +kernel
theorem dX4_canPour_43 : decode cX4_canPour 43 = .ok (.iconst 0, 1) := by decide +kernel
theorem dX4_canPour_44 : decode cX4_canPour 44 = .ok (.ireturn, 1) := by decide +kernel
theorem dX4_mixed_0 : decode cX4_mixed 0 = .ok (.iload_n 3, 1) := by decide +kernel
theorem dX4_mixed_1 : decode cX4_mixed 1 = .ok (.aload_n 0, 1) := by decide +kernel
theorem dX4_mixed_2 : decode cX4_mixed 2 = .ok (.getfield 9, 3) := by decide +kernel
theorem dX4_mixed_5 : decode cX4_mixed 5 = .ok (.iload_n 1, 1) := by decide +kernel
theorem dX4_mixed_6 : decode cX4_mixed 6 = .ok (.iconst 3, 1) := by decide +kernel
theorem dX4_mixed_7 : decode cX4_mixed 7 = .ok (.invokestatic 44, 3) := by decide +kernel
theorem dX4_mixed_10 : decode cX4_mixed 10 = .ok (.iaload, 1) := by decide +kernel
theorem dX4_mixed_11 : decode cX4_mixed 11 = .ok (.imul, 1) := by decide +kernel
theorem dX4_mixed_12 : decode cX4_mixed 12 = .ok (.aload_n 0, 1) := by decide +kernel
theorem dX4_mixed_13 : decode cX4_mixed 13 = .ok (.getfield 9, 3) := by decide +kernel
theorem dX4_mixed_16 : decode cX4_mixed 16 = .ok (.iload_n 2, 1) := by decide +kernel
theorem dX4_mixed_17 : decode cX4_mixed 17 = .ok (.iconst 2, 1) := by decide +kernel
theorem dX4_mixed_18 : decode cX4_mixed 18 = .ok (.invokestatic 44, 3) := by decide +kernel
theorem dX4_mixed_21 : decode cX4_mixed 21 = .ok (.iaload, 1) := by decide +kernel
theorem dX4_mixed_22 : decode cX4_mixed 22 = .ok (.aload_n 0, 1) := by decide +kernel
theorem dX4_mixed_23 : decode cX4_mixed 23 = .ok (.getfield 9, 3) := by decide +kernel
theorem dX4_mixed_26 : decode cX4_mixed 26 = .ok (.iload_n 2, 1) := by decide +kernel
theorem dX4_mixed_27 : decode cX4_mixed 27 = .ok (.iconst 3, 1) := by decide +kernel
theorem dX4_mixed_28 : decode cX4_mixed 28 = .ok (.invokestatic 44, 3) := by decide +kernel
theorem dX4_mixed_31 : decode cX4_mixed 31 = .ok (.iaload, 1) := by decide +kernel
theorem dX4_mixed_32 : decode cX4_mixed 32 = .ok (.imul, 1) := by decide +kernel
theorem dX4_mixed_33 : decode cX4_mixed 33 = .ok (.iadd, 1) := by decide +kernel
theorem dX4_mixed_34 : decode cX4_mixed 34 = .ok (.iload_n 3, 1) := by decide +kernel
theorem dX4_mixed_35 : decode cX4_mixed 35 = .ok (.aload_n 0, 1) := by decide +kernel
theorem dX4_mixed_36 : decode cX4_mixed 36 = .ok (.getfield 9, 3) := by decide +kernel
theorem dX4_mixed_39 : decode cX4_mixed 39 = .ok (.iload_n 2, 1) := by decide +kernel
theorem dX4_mixed_40 : decode cX4_mixed 40 = .ok (.iconst 2, 1) := by decide +kernel
theorem dX4_mixed_41 : decode cX4_mixed 41 = .ok (.invokestatic 44, 3) := by decide +kernel
theorem dX4_mixed_44 : decode cX4_mixed 44 = .ok (.iaload, 1) := by decide +kernel
theorem dX4_mixed_45 : decode cX4_mixed 45 = .ok (.iadd, 1) := by decide +kernel
theorem dX4_mixed_46 : decode cX4_mixed 46 = .ok (.idiv, 1) := by decide +kernel
theorem dX4_mixed_47 : decode cX4_mixed 47 = .ok (.ireturn, 1) := by decide +kernel
theorem dX4_pours_0 : decode cX4_pours 0 = .ok (.aload_n 0, 1) := by decide +kernel
theorem dX4_pours_1 : decode cX4_pours 1 = .ok (.getfield 9, 3) := by decide +kernel
theorem dX4_pours_4 : decode cX4_pours 4 = .ok (.iload_n 2, 1) := by decide +kernel
theorem dX4_pours_5 : decode cX4_pours 5 = .ok (.iconst 3, 1) := by decide +kernel
theorem dX4_pours_6 : decode cX4_pours 6 = .ok (.invokestatic 44, 3) := by decide +kernel
theorem dX4_pours_9 : decode cX4_pours 9 = .ok (.aload_n 0, 1) := by decide +kernel
theorem dX4_pours_10 : decode cX4_pours 10 = .ok (.iload_n 1, 1) := by decide +kernel
theorem dX4_pours_11 : decode cX4_pours 11 = .ok (.iload_n 2, 1) := by decide +kernel
theorem dX4_pours_12 : decode cX4_pours 12 = .ok (.iload_n 3, 1) := by decide +kernel
theorem dX4_pours_13 : decode cX4_pours 13 = .ok (.invokevirtual 107, 3) := by decide +kernel
theorem dX4_pours_16 : decode cX4_pours 16 = .ok (.iastore, 1) := by decide +kernel
theorem dX4_pours_17 : decode cX4_pours 17 = .ok (.aload_n 0, 1) := by decide +kernel
theorem dX4_pours_18 : decode cX4_pours 18 = .ok (.getfield 9, 3) := by decide +kernel
theorem dX4_pours_21 : decode cX4_pours 21 = .ok (.iload_n 1, 1) := by decide +kernel
theorem dX4_pours_22 : decode cX4_pours 22 = .ok (.iconst 2, 1) := by decide +kernel
theorem dX4_pours_23 : decode cX4_pours 23 = .ok (.invokestatic 44, 3) := by decide +kernel
theorem dX4_pours_26 : decode cX4_pours 26 = .ok (.dup2, 1) := by decide +kernel
theorem dX4_pours_27 : decode cX4_pours 27 = .ok (.iaload, 1) := by decide +kernel
theorem dX4_pours_28 : decode cX4_pours 28 = .ok (.iload_n 3, 1) := by decide +kernel
theorem dX4_pours_29 : decode cX4_pours 29 = .ok (.isub, 1) := by decide +kernel
theorem dX4_pours_30 : decode cX4_pours 30 = .ok (.iastore, 1) := by decide +kernel
theorem dX4_pours_31 : decode cX4_pours 31 = .ok (.aload_n 0, 1) := by decide +kernel
theorem dX4_pours_32 : decode cX4_pours 32 = .ok (.getfield 9, 3) := by decide +kernel
theorem dX4_pours_35 : decode cX4_pours 35 = .ok (.iload_n 2, 1) := by decide +kernel
theorem dX4_pours_36 : decode cX4_pours 36 = .ok (.iconst 2, 1) := by decide +kernel
theorem dX4_pours_37 : decode cX4_pours 37 = .ok (.invokestatic 44, 3) := by decide +kernel
theorem dX4_pours_40 : decode cX4_pours 40 = .ok (.dup2, 1) := by decide +kernel
theorem dX4_pours_41 : decode cX4_pours 41 = .ok (.iaload, 1) := by decide +kernel
theorem dX4_pours_42 : decode cX4_pours 42 = .ok (.iload_n 3, 1) := by decide +kernel
theorem dX4_pours_43 : decode cX4_pours 43 = .ok (.iadd, 1) := by decide +kernel
theorem dX4_pours_44 : decode cX4_pours 44 = .ok (.iastore, 1) := by decide +kernel
theorem dX4_pours_45 : decode cX4_pours 45 = .ok (.return_, 1) := by decide +kernel
theorem dX4_isDone_0 : decode cX4_isDone 0 = .ok (.aload_n 0, 1) := by decide +kernel
theorem dX4_isDone_1 : decode cX4_isDone 1 = .ok (.getfield 31, 3) := by decide +kernel
theorem dX4_isDone_4 : decode cX4_isDone 4 = .ok (.iconst 0, 1) := by decide +kernel
theorem dX4_isDone_5 : decode cX4_isDone 5 = .ok (.iaload, 1) := by decide +kernel
theorem dX4_isDone_6 : decode cX4_isDone 6 = .ok (.istore_n 2, 1) := by decide +kernel
theorem dX4_isDone_7 : decode cX4_isDone 7 = .ok (.aload_n 0, 1) := by decide +kernel
theorem dX4_isDone_8 : decode cX4_isDone 8 = .ok (.getfield 31, 3) := by decide +kernel
theorem dX4_isDone_11 : decode cX4_isDone 11 = .ok (.iconst 1, 1) := by decide +kernel
theorem dX4_isDone_12 : decode cX4_isDone 12 = .ok (.iaload, 1) := by decide +kernel
theorem dX4_isDone_13 : decode cX4_isDone 13 = .ok (.istore_n 3, 1) := by decide +kernel
theorem dX4_isDone_14 : decode cX4_isDone 14 = .ok (.iload_n 1, 1) := by decide +kernel
theorem dX4_isDone_15 : decode cX4_isDone 15 = .ok (.lookupswitch 263 #[(99, 49), (101, 186), (108, 168), (112, 195), (114, 149)], 49) := by decide +kernel
theorem dX4_isDone_64 : decode cX4_isDone 64 = .ok (.iload_n 3, 1) := by decide +kernel
theorem dX4_isDone_65 : decode cX4_isDone 65 = .ok (.iconst 1, 1) := by decide +kernel
theorem dX4_isDone_66 : decode cX4_isDone 66 = .ok (.sipush 400, 3) := by decide +kernel
theorem dX4_isDone_69 : decode cX4_isDone 69 = .ok (.invokestatic 40, 3) := by decide +kernel
theorem dX4_isDone_72 : decode cX4_isDone 72 = .ok (.ifCond .eq 24, 3) := by decide +kernel
theorem dX4_isDone_75 : decode cX4_isDone 75 = .ok (.aload_n 0, 1) := by decide +kernel
theorem dX4_isDone_76 : decode cX4_isDone 76 = .ok (.getfield 31, 3) := by decide +kernel
theorem dX4_isDone_79 : decode cX4_isDone 79 = .ok (.iconst 2, 1) := by decide +kernel
theorem dX4_isDone_80 : decode cX4_isDone 80 = .ok (.iaload, 1) := by decide +kernel
theorem dX4_isDone_81 : decode cX4_isDone 81 = .ok (.iload_n 3, 1) := by decide +kernel
theorem dX4_isDone_82 : decode cX4_isDone 82 = .ok (.if_icmp .gt 14, 3) := by decide +kernel
theorem dX4_isDone_85 : decode cX4_isDone 85 = .ok (.aload_n 0, 1) := by decide +kernel
theorem dX4_isDone_86 : decode cX4_isDone 86 = .ok (.getfield 9, 3) := by decide +kernel
theorem dX4_isDone_89 : decode cX4_isDone 89 = .ok (.iconst 0, 1) := by decide +kernel
theorem dX4_isDone_90 : decode cX4_isDone 90 = .ok (.iaload, 1) := by decide +kernel
theorem dX4_isDone_91 : decode cX4_isDone 91 = .ok (.bipush 7, 2) := by decide +kernel
theorem dX4_isDone_93 : decode cX4_isDone 93 = .ok (.if_icmp .ne 5, 3) := by decide +kernel
theorem dX4_isDone_96 : decode cX4_isDone 96 = .ok (.iconst 0, 1) := by decide +kernel
theorem dX4_isDone_97 : decode cX4_isDone 97 = .ok (.ireturn, 1) := by decide +kernel
theorem dX4_isDone_98 : decode cX4_isDone 98 = .ok (.iconst 0, 1) := by decide +kernel
theorem dX4_isDone_99 : decode cX4_isDone 99 = .ok (.istore 4, 2) := by decide +kernel
theorem dX4_isDone_101 : decode cX4_isDone 101 = .ok (.iload 4, 2) := by decide +kernel
theorem dX4_isDone_103 : decode cX4_isDone 103 = .ok (.iconst 5, 1) := by decide +kernel
theorem dX4_isDone_104 : decode cX4_isDone 104 = .ok (.if_icmp .ge 32, 3) := by decide +kernel
theorem dX4_isDone_107 : decode cX4_isDone 107 = .ok (.aload_n 0, 1) := by decide +kernel
theorem dX4_isDone_108 : decode cX4_isDone 108 = .ok (.getfield 9, 3) := by decide +kernel
theorem dX4_isDone_111 : decode cX4_isDone 111 = .ok (.aload_n 0, 1) := by decide +kernel
theorem dX4_isDone_112 : decode cX4_isDone 112 = .ok (.getfield 9, 3) := by decide +kernel
theorem dX4_isDone_115 : decode cX4_isDone 115 = .ok (.iconst 0, 1) := by decide +kernel
theorem dX4_isDone_116 : decode cX4_isDone 116 = .ok (.iaload, 1) := by decide +kernel
theorem dX4_isDone_117 : decode cX4_isDone 117 = .ok (.iload 4, 2) := by decide +kernel
theorem dX4_isDone_119 : decode cX4_isDone 119 = .ok (.invokestatic 44, 3) := by decide +kernel
theorem dX4_isDone_122 : decode cX4_isDone 122 = .ok (.aload_n 0, 1) := by decide +kernel
theorem dX4_isDone_123 : decode cX4_isDone 123 = .ok (.getfield 31, 3) := by decide +kernel
theorem dX4_isDone_126 : decode cX4_isDone 126 = .ok (.iload 4, 2) := by decide +kernel
theorem dX4_isDone_128 : decode cX4_isDone 128 = .ok (.iaload, 1) := by decide +kernel
theorem dX4_isDone_129 : decode cX4_isDone 129 = .ok (.iastore, 1) := by decide +kernel
theorem dX4_isDone_130 : decode cX4_isDone 130 = .ok (.iinc 4 1, 3) := by decide +kernel
theorem dX4_isDone_133 : decode cX4_isDone 133 = .ok (.goto (-32), 3) := by decide +kernel
theorem dX4_isDone_136 : decode cX4_isDone 136 = .ok (.aload_n 0, 1) := by decide +kernel
theorem dX4_isDone_137 : decode cX4_isDone 137 = .ok (.getfield 9, 3) := by decide +kernel
theorem dX4_isDone_140 : decode cX4_isDone 140 = .ok (.aload_n 0, 1) := by decide +kernel
theorem dX4_isDone_141 : decode cX4_isDone 141 = .ok (.getfield 9, 3) := by decide +kernel
theorem dX4_isDone_144 : decode cX4_isDone 144 = .ok (.iconst 0, 1) := by decide +kernel
theorem dX4_isDone_145 : decode cX4_isDone 145 = .ok (.iaload, 1) := by decide +kernel
theorem dX4_isDone_146 : decode cX4_isDone 146 = .ok (.iconst 5, 1) := by decide +kernel
theorem dX4_isDone_147 : decode cX4_isDone 147 = .ok (.invokestatic 44, 3) := by decide +kernel
theorem dX4_isDone_150 : decode cX4_isDone 150 = .ok (.iconst 0, 1) := by decide +kernel
theorem dX4_isDone_151 : decode cX4_isDone 151 = .ok (.iastore, 1) := by decide +kernel
theorem dX4_isDone_152 : decode cX4_isDone 152 = .ok (.aload_n 0, 1) := by decide +kernel
theorem dX4_isDone_153 : decode cX4_isDone 153 = .ok (.getfield 9, 3) := by decide +kernel
theorem dX4_isDone_156 : decode cX4_isDone 156 = .ok (.iconst 0, 1) := by decide +kernel
theorem dX4_isDone_157 : decode cX4_isDone 157 = .ok (.dup2, 1) := by decide +kernel
theorem dX4_isDone_158 : decode cX4_isDone 158 = .ok (.iaload, 1) := by decide +kernel
theorem dX4_isDone_159 : decode cX4_isDone 159 = .ok (.iconst 1, 1) := by decide +kernel
theorem dX4_isDone_160 : decode cX4_isDone 160 = .ok (.iadd, 1) := by decide +kernel
theorem dX4_isDone_161 : decode cX4_isDone 161 = .ok (.iastore, 1) := by decide +kernel
theorem dX4_isDone_162 : decode cX4_isDone 162 = .ok (.iconst 1, 1) := by decide +kernel
theorem dX4_isDone_163 : decode cX4_isDone 163 = .ok (.ireturn, 1) := by decide +kernel
theorem dX4_isDone_164 : decode cX4_isDone 164 = .ok (.aload_n 0, 1) := by decide +kernel
theorem dX4_isDone_165 : decode cX4_isDone 165 = .ok (.getfield 9, 3) := by decide +kernel
theorem dX4_isDone_168 : decode cX4_isDone 168 = .ok (.iconst 2, 1) := by decide +kernel
theorem dX4_isDone_169 : decode cX4_isDone 169 = .ok (.iload_n 2, 1) := by decide +kernel
theorem dX4_isDone_170 : decode cX4_isDone 170 = .ok (.iastore, 1) := by decide +kernel
theorem dX4_isDone_171 : decode cX4_isDone 171 = .ok (.iload_n 2, 1) := by decide +kernel
theorem dX4_isDone_172 : decode cX4_isDone 172 = .ok (.bipush 40, 2) := by decide +kernel
theorem dX4_isDone_174 : decode cX4_isDone 174 = .ok (.if_icmp .gt 7, 3) := by decide +kernel
theorem dX4_isDone_177 : decode cX4_isDone 177 = .ok (.iconst 1, 1) := by decide +kernel
theorem dX4_isDone_178 : decode cX4_isDone 178 = .ok (.goto 4, 3) := by decide +kernel
theorem dX4_isDone_181 : decode cX4_isDone 181 = .ok (.iconst 0, 1) := by decide +kernel
theorem dX4_isDone_182 : decode cX4_isDone 182 = .ok (.ireturn, 1) := by decide +kernel
theorem dX4_isDone_183 : decode cX4_isDone 183 = .ok (.aload_n 0, 1) := by decide +kernel
theorem dX4_isDone_184 : decode cX4_isDone 184 = .ok (.getfield 9, 3) := by decide +kernel
theorem dX4_isDone_187 : decode cX4_isDone 187 = .ok (.iconst 3, 1) := by decide +kernel
theorem dX4_isDone_188 : decode cX4_isDone 188 = .ok (.iload_n 2, 1) := by decide +kernel
theorem dX4_isDone_189 : decode cX4_isDone 189 = .ok (.iastore, 1) := by decide +kernel
theorem dX4_isDone_190 : decode cX4_isDone 190 = .ok (.iload_n 2, 1) := by decide +kernel
theorem dX4_isDone_191 : decode cX4_isDone 191 = .ok (.iconst 1, 1) := by decide +kernel
theorem dX4_isDone_192 : decode cX4_isDone 192 = .ok (.if_icmp .lt 7, 3) := by decide +kernel
theorem dX4_isDone_195 : decode cX4_isDone 195 = .ok (.iconst 1, 1) := by decide +kernel
theorem dX4_isDone_196 : decode cX4_isDone 196 = .ok (.goto 4, 3) := by decide +kernel
theorem dX4_isDone_199 : decode cX4_isDone 199 = .ok (.iconst 0, 1) := by decide +kernel
theorem dX4_isDone_200 : decode cX4_isDone 200 = .ok (.ireturn, 1) := by decide +kernel
theorem dX4_isDone_201 : decode cX4_isDone 201 = .ok (.aload_n 0, 1) := by decide +kernel
theorem dX4_isDone_202 : decode cX4_isDone 202 = .ok (.getfield 9, 3) := by decide +kernel
theorem dX4_isDone_205 : decode cX4_isDone 205 = .ok (.iconst 4, 1) := by decide +kernel
theorem dX4_isDone_206 : decode cX4_isDone 206 = .ok (.iload_n 2, 1) := by decide +kernel
theorem dX4_isDone_207 : decode cX4_isDone 207 = .ok (.iastore, 1) := by decide +kernel
theorem dX4_isDone_208 : decode cX4_isDone 208 = .ok (.iconst 1, 1) := by decide +kernel
theorem dX4_isDone_209 : decode cX4_isDone 209 = .ok (.ireturn, 1) := by decide +kernel
theorem dX4_isDone_210 : decode cX4_isDone 210 = .ok (.aload_n 0, 1) := by decide +kernel
theorem dX4_isDone_211 : decode cX4_isDone 211 = .ok (.iload_n 2, 1) := by decide +kernel
theorem dX4_isDone_212 : decode cX4_isDone 212 = .ok (.invokevirtual 111, 3) := by decide +kernel
theorem dX4_isDone_215 : decode cX4_isDone 215 = .ok (.ifCond .eq 47, 3) := by decide +kernel
theorem dX4_isDone_218 : decode cX4_isDone 218 = .ok (.aload_n 0, 1) := by decide +kernel
theorem dX4_isDone_219 : decode cX4_isDone 219 = .ok (.iload_n 3, 1) := by decide +kernel
theorem dX4_isDone_220 : decode cX4_isDone 220 = .ok (.invokevirtual 111, 3) := by decide +kernel
theorem dX4_isDone_223 : decode cX4_isDone 223 = .ok (.ifCond .eq 39, 3) := by decide +kernel
theorem dX4_isDone_226 : decode cX4_isDone 226 = .ok (.iload_n 2, 1) := by decide +kernel
theorem dX4_isDone_227 : decode cX4_isDone 227 = .ok (.iload_n 3, 1) := by decide +kernel
theorem dX4_isDone_228 : decode cX4_isDone 228 = .ok (.if_icmp .eq 34, 3) := by decide +kernel
theorem dX4_isDone_231 : decode cX4_isDone 231 = .ok (.aload_n 0, 1) := by decide +kernel
theorem dX4_isDone_232 : decode cX4_isDone 232 = .ok (.getfield 31, 3) := by decide +kernel
theorem dX4_isDone_235 : decode cX4_isDone 235 = .ok (.iconst 2, 1) := by decide +kernel
theorem dX4_isDone_236 : decode cX4_isDone 236 = .ok (.iaload, 1) := by decide +kernel
theorem dX4_isDone_237 : decode cX4_isDone 237 = .ok (.iconst 1, 1) := by decide +kernel
theorem dX4_isDone_238 : decode cX4_isDone 238 = .ok (.sipush 400, 3) := by decide +kernel
theorem dX4_isDone_241 : decode cX4_isDone 241 = .ok (.invokestatic 40, 3) := by decide +kernel
theorem dX4_isDone_244 : decode cX4_isDone 244 = .ok (.ifCond .eq 18, 3) := by decide +kernel
theorem dX4_isDone_247 : decode cX4_isDone 247 = .ok (.aload_n 0, 1) := by decide +kernel
theorem dX4_isDone_248 : decode cX4_isDone 248 = .ok (.iload_n 2, 1) := by decide +kernel
theorem dX4_isDone_249 : decode cX4_isDone 249 = .ok (.iload_n 3, 1) := by decide +kernel
theorem dX4_isDone_250 : decode cX4_isDone 250 = .ok (.aload_n 0, 1) := by decide +kernel
theorem dX4_isDone_251 : decode cX4_isDone 251 = .ok (.getfield 31, 3) := by decide +kernel
theorem dX4_isDone_254 : decode cX4_isDone 254 = .ok (.iconst 2, 1) := by decide +kernel
theorem dX4_isDone_255 : decode cX4_isDone 255 = .ok (.iaload, 1) := by decide +kernel
theorem dX4_isDone_256 : decode cX4_isDone 256 = .ok (.invokevirtual 115, 3) := by decide +kernel
theorem dX4_isDone_259 : decode cX4_isDone 259 = .ok (.ifCond .ne 5, 3) := by decide +kernel
theorem dX4_isDone_262 : decode cX4_isDone 262 = .ok (.iconst 0, 1) := by decide +kernel
theorem dX4_isDone_263 : decode cX4_isDone 263 = .ok (.ireturn, 1) := by decide +kernel
theorem dX4_isDone_264 : decode cX4_isDone 264 = .ok (.aload_n 0, 1) := by decide +kernel
theorem dX4_isDone_265 : decode cX4_isDone 265 = .ok (.iload_n 2, 1) := by decide +kernel
theorem dX4_isDone_266 : decode cX4_isDone 266 = .ok (.iload_n 3, 1) := by decide +kernel
theorem dX4_isDone_267 : decode cX4_isDone 267 = .ok (.aload_n 0, 1) := by decide +kernel
theorem dX4_isDone_268 : decode cX4_isDone 268 = .ok (.getfield 31, 3) := by decide +kernel
theorem dX4_isDone_271 : decode cX4_isDone 271 = .ok (.iconst 2, 1) := by decide +kernel
theorem dX4_isDone_272 : decode cX4_isDone 272 = .ok (.iaload, 1) := by decide +kernel
theorem dX4_isDone_273 : decode cX4_isDone 273 = .ok (.invokevirtual 118, 3) := by decide +kernel
theorem dX4_isDone_276 : decode cX4_isDone 276 = .ok (.iconst 1, 1) := by decide +kernel
theorem dX4_isDone_277 : decode cX4_isDone 277 = .ok (.ireturn, 1) := by decide +kernel
theorem dX4_isDone_278 : decode cX4_isDone 278 = .ok (.iload_n 2, 1) := by decide +kernel
theorem dX4_isDone_279 : decode cX4_isDone 279 = .ok (.iconst 1, 1) := by decide +kernel
theorem dX4_isDone_280 : decode cX4_isDone 280 = .ok (.bipush 60, 2) := by decide +kernel
theorem dX4_isDone_282 : decode cX4_isDone 282 = .ok (.invokestatic 40, 3) := by decide +kernel
theorem dX4_isDone_285 : decode cX4_isDone 285 = .ok (.ifCond .eq 17, 3) := by decide +kernel
theorem dX4_isDone_288 : decode cX4_isDone 288 = .ok (.aload_n 0, 1) := by decide +kernel
theorem dX4_isDone_289 : decode cX4_isDone 289 = .ok (.getfield 9, 3) := by decide +kernel
theorem dX4_isDone_292 : decode cX4_isDone 292 = .ok (.iconst 1, 1) := by decide +kernel
theorem dX4_isDone_293 : decode cX4_isDone 293 = .ok (.iaload, 1) := by decide +kernel
theorem dX4_isDone_294 : decode cX4_isDone 294 = .ok (.iload_n 2, 1) := by decide +kernel
theorem dX4_isDone_295 : decode cX4_isDone 295 = .ok (.iadd, 1) := by decide +kernel
theorem dX4_isDone_296 : decode cX4_isDone 296 = .ok (.sipush 999, 3) := by decide +kernel
theorem dX4_isDone_299 : decode cX4_isDone 299 = .ok (.if_icmp .le 5, 3) := by decide +kernel
theorem dX4_isDone_302 : decode cX4_isDone 302 = .ok (.iconst 0, 1) := by decide +kernel
theorem dX4_isDone_303 : decode cX4_isDone 303 = .ok (.ireturn, 1) := by decide +kernel
theorem dX4_isDone_304 : decode cX4_isDone 304 = .ok (.aload_n 0, 1) := by decide +kernel
theorem dX4_isDone_305 : decode cX4_isDone 305 = .ok (.aload_n 0, 1) := by decide +kernel
theorem dX4_isDone_306 : decode cX4_isDone 306 = .ok (.getfield 9, 3) := by decide +kernel
theorem dX4_isDone_309 : decode cX4_isDone 309 = .ok (.iload_n 2, 1) := by decide +kernel
theorem dX4_isDone_310 : decode cX4_isDone 310 = .ok (.invokevirtual 82, 3) := by decide +kernel
theorem dX4_isDone_313 : decode cX4_isDone 313 = .ok (.iconst 1, 1) := by decide +kernel
theorem dX4_isDone_314 : decode cX4_isDone 314 = .ok (.ireturn, 1) := by decide +kernel
theorem dX4_town_0 : decode cX4_town 0 = .ok (.aload_n 0, 1) := by decide +kernel
theorem dX4_town_1 : decode cX4_town 1 = .ok (.iconst 0, 1) := by decide +kernel
theorem dX4_town_2 : decode cX4_town 2 = .ok (.putfield 89, 3) := by decide +kernel
theorem dX4_town_5 : decode cX4_town 5 = .ok (.iconst 0, 1) := by decide +kernel
theorem dX4_town_6 : decode cX4_town 6 = .ok (.istore_n 1, 1) := by decide +kernel
theorem dX4_town_7 : decode cX4_town 7 = .ok (.bipush (-9), 2) := by decide +kernel
theorem dX4_town_9 : decode cX4_town 9 = .ok (.istore_n 2, 1) := by decide +kernel
theorem dX4_town_10 : decode cX4_town 10 = .ok (.aload_n 0, 1) := by decide +kernel
theorem dX4_town_11 : decode cX4_town 11 = .ok (.invokevirtual 122, 3) := by decide +kernel
theorem dX4_town_14 : decode cX4_town 14 = .ok (.ifCond .ne 12, 3) := by decide +kernel
theorem dX4_town_17 : decode cX4_town 17 = .ok (.sipush (-1000), 3) := by decide +kernel
theorem dX4_town_20 : decode cX4_town 20 = .ok (.aload_n 0, 1) := by decide +kernel
theorem dX4_town_21 : decode cX4_town 21 = .ok (.getfield 89, 3) := by decide +kernel
theorem dX4_town_24 : decode cX4_town 24 = .ok (.isub, 1) := by decide +kernel
theorem dX4_town_25 : decode cX4_town 25 = .ok (.istore_n 2, 1) := by decide +kernel
theorem dX4_town_26 : decode cX4_town 26 = .ok (.iinc 1 1, 3) := by decide +kernel
theorem dX4_town_29 : decode cX4_town 29 = .ok (.iload_n 2, 1) := by decide +kernel
theorem dX4_town_30 : decode cX4_town 30 = .ok (.bipush (-9), 2) := by decide +kernel
theorem dX4_town_32 : decode cX4_town 32 = .ok (.if_icmp .ne 14, 3) := by decide +kernel
theorem dX4_town_35 : decode cX4_town 35 = .ok (.aload_n 0, 1) := by decide +kernel
theorem dX4_town_36 : decode cX4_town 36 = .ok (.getfield 89, 3) := by decide +kernel
theorem dX4_town_39 : decode cX4_town 39 = .ok (.aload_n 0, 1) := by decide +kernel
theorem dX4_town_40 : decode cX4_town 40 = .ok (.getfield 86, 3) := by decide +kernel
theorem dX4_town_43 : decode cX4_town 43 = .ok (.if_icmp .lt (-33), 3) := by decide +kernel
theorem dX4_town_46 : decode cX4_town 46 = .ok (.aload_n 0, 1) := by decide +kernel
theorem dX4_town_47 : decode cX4_town 47 = .ok (.getfield 9, 3) := by decide +kernel
theorem dX4_town_50 : decode cX4_town 50 = .ok (.aload_n 0, 1) := by decide +kernel
theorem dX4_town_51 : decode cX4_town 51 = .ok (.getfield 19, 3) := by decide +kernel
theorem dX4_town_54 : decode cX4_town 54 = .ok (.invokestatic 78, 3) := by decide +kernel
theorem dX4_town_57 : decode cX4_town 57 = .ok (.aload_n 0, 1) := by decide +kernel
theorem dX4_town_58 : decode cX4_town 58 = .ok (.iconst 0, 1) := by decide +kernel
theorem dX4_town_59 : decode cX4_town 59 = .ok (.putfield 89, 3) := by decide +kernel
theorem dX4_town_62 : decode cX4_town 62 = .ok (.iload_n 2, 1) := by decide +kernel
theorem dX4_town_63 : decode cX4_town 63 = .ok (.bipush (-9), 2) := by decide +kernel
theorem dX4_town_65 : decode cX4_town 65 = .ok (.if_icmp .ne 63, 3) := by decide +kernel
theorem dX4_town_68 : decode cX4_town 68 = .ok (.aload_n 0, 1) := by decide +kernel
theorem dX4_town_69 : decode cX4_town 69 = .ok (.getfield 89, 3) := by decide +kernel
theorem dX4_town_72 : decode cX4_town 72 = .ok (.aload_n 0, 1) := by decide +kernel
theorem dX4_town_73 : decode cX4_town 73 = .ok (.getfield 86, 3) := by decide +kernel
theorem dX4_town_76 : decode cX4_town 76 = .ok (.if_icmp .ge 52, 3) := by decide +kernel
theorem dX4_town_79 : decode cX4_town 79 = .ok (.aload_n 0, 1) := by decide +kernel
theorem dX4_town_80 : decode cX4_town 80 = .ok (.getfield 89, 3) := by decide +kernel
theorem dX4_town_83 : decode cX4_town 83 = .ok (.istore_n 3, 1) := by decide +kernel
theorem dX4_town_84 : decode cX4_town 84 = .ok (.aload_n 0, 1) := by decide +kernel
theorem dX4_town_85 : decode cX4_town 85 = .ok (.invokevirtual 92, 3) := by decide +kernel
theorem dX4_town_88 : decode cX4_town 88 = .ok (.istore 4, 2) := by decide +kernel
theorem dX4_town_90 : decode cX4_town 90 = .ok (.aload_n 0, 1) := by decide +kernel
theorem dX4_town_91 : decode cX4_town 91 = .ok (.invokevirtual 122, 3) := by decide +kernel
theorem dX4_town_94 : decode cX4_town 94 = .ok (.istore 5, 2) := by decide +kernel
theorem dX4_town_96 : decode cX4_town 96 = .ok (.aload_n 0, 1) := by decide +kernel
theorem dX4_town_97 : decode cX4_town 97 = .ok (.iload 4, 2) := by decide +kernel
theorem dX4_town_99 : decode cX4_town 99 = .ok (.invokevirtual 125, 3) := by decide +kernel
theorem dX4_town_102 : decode cX4_town 102 = .ok (.ifCond .eq 6, 3) := by decide +kernel
theorem dX4_town_105 : decode cX4_town 105 = .ok (.goto (-43), 3) := by decide +kernel
theorem dX4_town_108 : decode cX4_town 108 = .ok (.sipush (-2000), 3) := by decide +kernel
theorem dX4_town_111 : decode cX4_town 111 = .ok (.iload_n 3, 1) := by decide +kernel
theorem dX4_town_112 : decode cX4_town 112 = .ok (.isub, 1) := by decide +kernel
theorem dX4_town_113 : decode cX4_town 113 = .ok (.istore_n 2, 1) := by decide +kernel
theorem dX4_town_114 : decode cX4_town 114 = .ok (.aload_n 0, 1) := by decide +kernel
theorem dX4_town_115 : decode cX4_town 115 = .ok (.getfield 19, 3) := by decide +kernel
theorem dX4_town_118 : decode cX4_town 118 = .ok (.aload_n 0, 1) := by decide +kernel
theorem dX4_town_119 : decode cX4_town 119 = .ok (.getfield 9, 3) := by decide +kernel
theorem dX4_town_122 : decode cX4_town 122 = .ok (.invokestatic 78, 3) := by decide +kernel
theorem dX4_town_125 : decode cX4_town 125 = .ok (.goto (-63), 3) := by decide +kernel
theorem dX4_town_128 : decode cX4_town 128 = .ok (.aload_n 0, 1) := by decide +kernel
theorem dX4_town_129 : decode cX4_town 129 = .ok (.iconst 0, 1) := by decide +kernel
theorem dX4_town_130 : decode cX4_town 130 = .ok (.putfield 86, 3) := by decide +kernel
theorem dX4_town_133 : decode cX4_town 133 = .ok (.iload_n 2, 1) := by decide +kernel
theorem dX4_town_134 : decode cX4_town 134 = .ok (.bipush (-9), 2) := by decide +kernel
theorem dX4_town_136 : decode cX4_town 136 = .ok (.if_icmp .ne 7, 3) := by decide +kernel
theorem dX4_town_139 : decode cX4_town 139 = .ok (.iload_n 1, 1) := by decide +kernel
theorem dX4_town_140 : decode cX4_town 140 = .ok (.goto 4, 3) := by decide +kernel
theorem dX4_town_143 : decode cX4_town 143 = .ok (.iload_n 2, 1) := by decide +kernel
theorem dX4_town_144 : decode cX4_town 144 = .ok (.ireturn, 1) := by decide +kernel
theorem dX4_cask_0 : decode cX4_cask 0 = .ok (.aload_n 0, 1) := by decide +kernel
theorem dX4_cask_1 : decode cX4_cask 1 = .ok (.iload_n 1, 1) := by decide +kernel
theorem dX4_cask_2 : decode cX4_cask 2 = .ok (.invokevirtual 111, 3) := by decide +kernel
theorem dX4_cask_5 : decode cX4_cask 5 = .ok (.ifCond .ne 9, 3) := by decide +kernel
theorem dX4_cask_8 : decode cX4_cask 8 = .ok (.aload_n 0, 1) := by decide +kernel
theorem dX4_cask_9 : decode cX4_cask 9 = .ok (.iconst (-1), 1) := by decide +kernel
theorem dX4_cask_10 : decode cX4_cask 10 = .ok (.invokevirtual 36, 3) := by decide +kernel
theorem dX4_cask_13 : decode cX4_cask 13 = .ok (.ireturn, 1) := by decide +kernel
theorem dX4_cask_14 : decode cX4_cask 14 = .ok (.iload_n 2, 1) := by decide +kernel
theorem dX4_cask_15 : decode cX4_cask 15 = .ok (.iconst 0, 1) := by decide +kernel
theorem dX4_cask_16 : decode cX4_cask 16 = .ok (.iconst 5, 1) := by decide +kernel
theorem dX4_cask_17 : decode cX4_cask 17 = .ok (.invokestatic 40, 3) := by decide +kernel
theorem dX4_cask_20 : decode cX4_cask 20 = .ok (.ifCond .eq 16, 3) := by decide +kernel
theorem dX4_cask_23 : decode cX4_cask 23 = .ok (.aload_n 0, 1) := by decide +kernel
theorem dX4_cask_24 : decode cX4_cask 24 = .ok (.getfield 9, 3) := by decide +kernel
theorem dX4_cask_27 : decode cX4_cask 27 = .ok (.iload_n 1, 1) := by decide +kernel
theorem dX4_cask_28 : decode cX4_cask 28 = .ok (.iload_n 2, 1) := by decide +kernel
theorem dX4_cask_29 : decode cX4_cask 29 = .ok (.invokestatic 44, 3) := by decide +kernel
theorem dX4_cask_32 : decode cX4_cask 32 = .ok (.iaload, 1) := by decide +kernel
theorem dX4_cask_33 : decode cX4_cask 33 = .ok (.goto 9, 3) := by decide +kernel
theorem dX4_cask_36 : decode cX4_cask 36 = .ok (.aload_n 0, 1) := by decide +kernel
theorem dX4_cask_37 : decode cX4_cask 37 = .ok (.bipush (-2), 2) := by decide +kernel
theorem dX4_cask_39 : decode cX4_cask 39 = .ok (.invokevirtual 36, 3) := by decide +kernel
theorem dX4_cask_42 : decode cX4_cask 42 = .ok (.ireturn, 1) := by decide +kernel
theorem dX4_set_0 : decode cX4_set 0 = .ok (.iload_n 1, 1) := by decide +kernel
theorem dX4_set_1 : decode cX4_set 1 = .ok (.iconst 0, 1) := by decide +kernel
theorem dX4_set_2 : decode cX4_set 2 = .ok (.iconst 2, 1) := by decide +kernel
theorem dX4_set_3 : decode cX4_set 3 = .ok (.invokestatic 40, 3) := by decide +kernel
theorem dX4_set_6 : decode cX4_set 6 = .ok (.ifCond .ne 10, 3) := by decide +kernel
theorem dX4_set_9 : decode cX4_set 9 = .ok (.aload_n 0, 1) := by decide +kernel
theorem dX4_set_10 : decode cX4_set 10 = .ok (.bipush (-2), 2) := by decide +kernel
theorem dX4_set_12 : decode cX4_set 12 = .ok (.invokevirtual 36, 3) := by decide +kernel
theorem dX4_set_15 : decode cX4_set 15 = .ok (.ireturn, 1) := by decide +kernel
theorem dX4_set_16 : decode cX4_set 16 = .ok (.iload_n 2, 1) := by decide +kernel
theorem dX4_set_17 : decode cX4_set 17 = .ok (.iload_n 1, 1) := by decide +kernel
theorem dX4_set_18 : decode cX4_set 18 = .ok (.iconst 1, 1) := by decide +kernel
theorem dX4_set_19 : decode cX4_set 19 = .ok (.if_icmp .ne 7, 3) := by decide +kernel
theorem dX4_set_22 : decode cX4_set 22 = .ok (.iconst 1, 1) := by decide +kernel
theorem dX4_set_23 : decode cX4_set 23 = .ok (.goto 4, 3) := by decide +kernel
theorem dX4_set_26 : decode cX4_set 26 = .ok (.iconst 0, 1) := by decide +kernel
theorem dX4_set_27 : decode cX4_set 27 = .ok (.if_icmp .ge 10, 3) := by decide +kernel
theorem dX4_set_30 : decode cX4_set 30 = .ok (.aload_n 0, 1) := by decide +kernel
theorem dX4_set_31 : decode cX4_set 31 = .ok (.bipush (-4), 2) := by decide +kernel
theorem dX4_set_33 : decode cX4_set 33 = .ok (.invokevirtual 36, 3) := by decide +kernel
theorem dX4_set_36 : decode cX4_set 36 = .ok (.ireturn, 1) := by decide +kernel
theorem dX4_set_37 : decode cX4_set 37 = .ok (.iload_n 2, 1) := by decide +kernel
theorem dX4_set_38 : decode cX4_set 38 = .ok (.iload_n 1, 1) := by decide +kernel
theorem dX4_set_39 : decode cX4_set 39 = .ok (.ifCond .ne 8, 3) := by decide +kernel
theorem dX4_set_42 : decode cX4_set 42 = .ok (.bipush 40, 2) := by decide +kernel
theorem dX4_set_44 : decode cX4_set 44 = .ok (.goto 5, 3) := by decide +kernel
theorem dX4_set_47 : decode cX4_set 47 = .ok (.bipush 9, 2) := by decide +kernel
theorem dX4_set_49 : decode cX4_set 49 = .ok (.if_icmp .le 10, 3) := by decide +kernel
theorem dX4_set_52 : decode cX4_set 52 = .ok (.aload_n 0, 1) := by decide +kernel
theorem dX4_set_53 : decode cX4_set 53 = .ok (.bipush (-6), 2) := by decide +kernel
theorem dX4_set_55 : decode cX4_set 55 = .ok (.invokevirtual 36, 3) := by decide +kernel
theorem dX4_set_58 : decode cX4_set 58 = .ok (.ireturn, 1) := by decide +kernel
theorem dX4_set_59 : decode cX4_set 59 = .ok (.aload_n 0, 1) := by decide +kernel
theorem dX4_set_60 : decode cX4_set 60 = .ok (.getfield 9, 3) := by decide +kernel
theorem dX4_set_63 : decode cX4_set 63 = .ok (.iconst 2, 1) := by decide +kernel
theorem dX4_set_64 : decode cX4_set 64 = .ok (.iload_n 1, 1) := by decide +kernel
theorem dX4_set_65 : decode cX4_set 65 = .ok (.iadd, 1) := by decide +kernel
theorem dX4_set_66 : decode cX4_set 66 = .ok (.iaload, 1) := by decide +kernel
theorem dX4_set_67 : decode cX4_set 67 = .ok (.istore_n 3, 1) := by decide +kernel
theorem dX4_set_68 : decode cX4_set 68 = .ok (.aload_n 0, 1) := by decide +kernel
theorem dX4_set_69 : decode cX4_set 69 = .ok (.getfield 9, 3) := by decide +kernel
theorem dX4_set_72 : decode cX4_set 72 = .ok (.iconst 2, 1) := by decide +kernel
theorem dX4_set_73 : decode cX4_set 73 = .ok (.iload_n 1, 1) := by decide +kernel
theorem dX4_set_74 : decode cX4_set 74 = .ok (.iadd, 1) := by decide +kernel
theorem dX4_set_75 : decode cX4_set 75 = .ok (.iload_n 2, 1) := by decide +kernel
theorem dX4_set_76 : decode cX4_set 76 = .ok (.iastore, 1) := by decide +kernel
theorem dX4_set_77 : decode cX4_set 77 = .ok (.iload_n 3, 1) := by decide +kernel
theorem dX4_set_78 : decode cX4_set 78 = .ok (.ireturn, 1) := by decide +kernel
theorem dX4_fill_0 : decode cX4_fill 0 = .ok (.aload_n 0, 1) := by decide +kernel
theorem dX4_fill_1 : decode cX4_fill 1 = .ok (.iload_n 1, 1) := by decide +kernel
theorem dX4_fill_2 : decode cX4_fill 2 = .ok (.invokevirtual 111, 3) := by decide +kernel
theorem dX4_fill_5 : decode cX4_fill 5 = .ok (.ifCond .ne 9, 3) := by decide +kernel
theorem dX4_fill_8 : decode cX4_fill 8 = .ok (.aload_n 0, 1) := by decide +kernel
theorem dX4_fill_9 : decode cX4_fill 9 = .ok (.iconst (-1), 1) := by decide +kernel
theorem dX4_fill_10 : decode cX4_fill 10 = .ok (.invokevirtual 36, 3) := by decide +kernel
theorem dX4_fill_13 : decode cX4_fill 13 = .ok (.ireturn, 1) := by decide +kernel
theorem dX4_fill_14 : decode cX4_fill 14 = .ok (.iload_n 2, 1) := by decide +kernel
theorem dX4_fill_15 : decode cX4_fill 15 = .ok (.ifCond .ge 10, 3) := by decide +kernel
theorem dX4_fill_18 : decode cX4_fill 18 = .ok (.aload_n 0, 1) := by decide +kernel
theorem dX4_fill_19 : decode cX4_fill 19 = .ok (.bipush (-4), 2) := by decide +kernel
theorem dX4_fill_21 : decode cX4_fill 21 = .ok (.invokevirtual 36, 3) := by decide +kernel
theorem dX4_fill_24 : decode cX4_fill 24 = .ok (.ireturn, 1) := by decide +kernel
theorem dX4_fill_25 : decode cX4_fill 25 = .ok (.iload_n 2, 1) := by decide +kernel
theorem dX4_fill_26 : decode cX4_fill 26 = .ok (.aload_n 0, 1) := by decide +kernel
theorem dX4_fill_27 : decode cX4_fill 27 = .ok (.getfield 9, 3) := by decide +kernel
theorem dX4_fill_30 : decode cX4_fill 30 = .ok (.iload_n 1, 1) := by decide +kernel
theorem dX4_fill_31 : decode cX4_fill 31 = .ok (.iconst 1, 1) := by decide +kernel
theorem dX4_fill_32 : decode cX4_fill 32 = .ok (.invokestatic 44, 3) := by decide +kernel
theorem dX4_fill_35 : decode cX4_fill 35 = .ok (.iaload, 1) := by decide +kernel
theorem dX4_fill_36 : decode cX4_fill 36 = .ok (.if_icmp .le 10, 3) := by decide +kernel
theorem dX4_fill_39 : decode cX4_fill 39 = .ok (.aload_n 0, 1) := by decide +kernel
theorem dX4_fill_40 : decode cX4_fill 40 = .ok (.bipush (-6), 2) := by decide +kernel
theorem dX4_fill_42 : decode cX4_fill 42 = .ok (.invokevirtual 36, 3) := by decide +kernel
theorem dX4_fill_45 : decode cX4_fill 45 = .ok (.ireturn, 1) := by decide +kernel
theorem dX4_fill_46 : decode cX4_fill 46 = .ok (.aload_n 0, 1) := by decide +kernel
theorem dX4_fill_47 : decode cX4_fill 47 = .ok (.getfield 9, 3) := by decide +kernel
theorem dX4_fill_50 : decode cX4_fill 50 = .ok (.iload_n 1, 1) := by decide +kernel
theorem dX4_fill_51 : decode cX4_fill 51 = .ok (.iconst 2, 1) := by decide +kernel
theorem dX4_fill_52 : decode cX4_fill 52 = .ok (.invokestatic 44, 3) := by decide +kernel
theorem dX4_fill_55 : decode cX4_fill 55 = .ok (.iaload, 1) := by decide +kernel
theorem dX4_fill_56 : decode cX4_fill 56 = .ok (.istore_n 3, 1) := by decide +kernel
theorem dX4_fill_57 : decode cX4_fill 57 = .ok (.aload_n 0, 1) := by decide +kernel
theorem dX4_fill_58 : decode cX4_fill 58 = .ok (.getfield 9, 3) := by decide +kernel
theorem dX4_fill_61 : decode cX4_fill 61 = .ok (.iload_n 1, 1) := by decide +kernel
theorem dX4_fill_62 : decode cX4_fill 62 = .ok (.iconst 2, 1) := by decide +kernel
theorem dX4_fill_63 : decode cX4_fill 63 = .ok (.invokestatic 44, 3) := by decide +kernel
theorem dX4_fill_66 : decode cX4_fill 66 = .ok (.iload_n 2, 1) := by decide +kernel
theorem dX4_fill_67 : decode cX4_fill 67 = .ok (.iastore, 1) := by decide +kernel
theorem dX4_fill_68 : decode cX4_fill 68 = .ok (.iload_n 3, 1) := by decide +kernel
theorem dX4_fill_69 : decode cX4_fill 69 = .ok (.ireturn, 1) := by decide +kernel
theorem dX4_takes_0 : decode cX4_takes 0 = .ok (.aload_n 0, 1) := by decide +kernel
theorem dX4_takes_1 : decode cX4_takes 1 = .ok (.iload_n 1, 1) := by decide +kernel
theorem dX4_takes_2 : decode cX4_takes 2 = .ok (.invokevirtual 111, 3) := by decide +kernel
theorem dX4_takes_5 : decode cX4_takes 5 = .ok (.ifCond .ne 9, 3) := by decide +kernel
theorem dX4_takes_8 : decode cX4_takes 8 = .ok (.aload_n 0, 1) := by decide +kernel
theorem dX4_takes_9 : decode cX4_takes 9 = .ok (.iconst (-1), 1) := by decide +kernel
theorem dX4_takes_10 : decode cX4_takes 10 = .ok (.invokevirtual 36, 3) := by decide +kernel
theorem dX4_takes_13 : decode cX4_takes 13 = .ok (.ireturn, 1) := by decide +kernel
theorem dX4_takes_14 : decode cX4_takes 14 = .ok (.iload_n 2, 1) := by decide +kernel
theorem dX4_takes_15 : decode cX4_takes 15 = .ok (.ifCond .lt 7, 3) := by decide +kernel
theorem dX4_takes_18 : decode cX4_takes 18 = .ok (.iload_n 3, 1) := by decide +kernel
theorem dX4_takes_19 : decode cX4_takes 19 = .ok (.ifCond .ge 10, 3) := by decide +kernel
theorem dX4_takes_22 : decode cX4_takes 22 = .ok (.aload_n 0, 1) := by decide +kernel
theorem dX4_takes_23 : decode cX4_takes 23 = .ok (.bipush (-4), 2) := by decide +kernel
theorem dX4_takes_25 : decode cX4_takes 25 = .ok (.invokevirtual 36, 3) := by decide +kernel
theorem dX4_takes_28 : decode cX4_takes 28 = .ok (.ireturn, 1) := by decide +kernel
theorem dX4_takes_29 : decode cX4_takes 29 = .ok (.iload_n 2, 1) := by decide +kernel
theorem dX4_takes_30 : decode cX4_takes 30 = .ok (.sipush 400, 3) := by decide +kernel
theorem dX4_takes_33 : decode cX4_takes 33 = .ok (.if_icmp .gt 9, 3) := by decide +kernel
theorem dX4_takes_36 : decode cX4_takes 36 = .ok (.iload_n 3, 1) := by decide +kernel
theorem dX4_takes_37 : decode cX4_takes 37 = .ok (.bipush 80, 2) := by decide +kernel
theorem dX4_takes_39 : decode cX4_takes 39 = .ok (.if_icmp .le 12, 3) := by decide +kernel
theorem dX4_takes_42 : decode cX4_takes 42 = .ok (.aload_n 0, 1) := by decide +kernel
theorem dX4_takes_43 : decode cX4_takes 43 = .ok (.bipush (-6), 2) := by decide +kernel
theorem dX4_takes_45 : decode cX4_takes 45 = .ok (.invokevirtual 36, 3) := by decide +kernel
theorem dX4_takes_48 : decode cX4_takes 48 = .ok (.goto 13, 3) := by decide +kernel
theorem dX4_takes_51 : decode cX4_takes 51 = .ok (.aload_n 0, 1) := by decide +kernel
theorem dX4_takes_52 : decode cX4_takes 52 = .ok (.getfield 9, 3) := by decide +kernel
theorem dX4_takes_55 : decode cX4_takes 55 = .ok (.iload_n 1, 1) := by decide +kernel
theorem dX4_takes_56 : decode cX4_takes 56 = .ok (.iload_n 2, 1) := by decide +kernel
theorem dX4_takes_57 : decode cX4_takes 57 = .ok (.iload_n 3, 1) := by decide +kernel
theorem dX4_takes_58 : decode cX4_takes 58 = .ok (.invokestatic 58, 3) := by decide +kernel
theorem dX4_takes_61 : decode cX4_takes 61 = .ok (.ireturn, 1) := by decide +kernel
theorem dX4_pour_0 : decode cX4_pour 0 = .ok (.aload_n 0, 1) := by decide +kernel
theorem dX4_pour_1 : decode cX4_pour 1 = .ok (.iload_n 1, 1) := by decide +kernel
theorem dX4_pour_2 : decode cX4_pour 2 = .ok (.invokevirtual 111, 3) := by decide +kernel
theorem dX4_pour_5 : decode cX4_pour 5 = .ok (.ifCond .eq 16, 3) := by decide +kernel
theorem dX4_pour_8 : decode cX4_pour 8 = .ok (.aload_n 0, 1) := by decide +kernel
theorem dX4_pour_9 : decode cX4_pour 9 = .ok (.iload_n 2, 1) := by decide +kernel
theorem dX4_pour_10 : decode cX4_pour 10 = .ok (.invokevirtual 111, 3) := by decide +kernel
theorem dX4_pour_13 : decode cX4_pour 13 = .ok (.ifCond .eq 8, 3) := by decide +kernel
theorem dX4_pour_16 : decode cX4_pour 16 = .ok (.iload_n 1, 1) := by decide +kernel
theorem dX4_pour_17 : decode cX4_pour 17 = .ok (.iload_n 2, 1) := by decide +kernel
theorem dX4_pour_18 : decode cX4_pour 18 = .ok (.if_icmp .ne 9, 3) := by decide +kernel
theorem dX4_pour_21 : decode cX4_pour 21 = .ok (.aload_n 0, 1) := by decide +kernel
theorem dX4_pour_22 : decode cX4_pour 22 = .ok (.iconst (-1), 1) := by decide +kernel
theorem dX4_pour_23 : decode cX4_pour 23 = .ok (.invokevirtual 36, 3) := by decide +kernel
theorem dX4_pour_26 : decode cX4_pour 26 = .ok (.ireturn, 1) := by decide +kernel
theorem dX4_pour_27 : decode cX4_pour 27 = .ok (.iload_n 3, 1) := by decide +kernel
theorem dX4_pour_28 : decode cX4_pour 28 = .ok (.iconst 1, 1) := by decide +kernel
theorem dX4_pour_29 : decode cX4_pour 29 = .ok (.if_icmp .ge 10, 3) := by decide +kernel
theorem dX4_pour_32 : decode cX4_pour 32 = .ok (.aload_n 0, 1) := by decide +kernel
theorem dX4_pour_33 : decode cX4_pour 33 = .ok (.bipush (-4), 2) := by decide +kernel
theorem dX4_pour_35 : decode cX4_pour 35 = .ok (.invokevirtual 36, 3) := by decide +kernel
theorem dX4_pour_38 : decode cX4_pour 38 = .ok (.ireturn, 1) := by decide +kernel
theorem dX4_pour_39 : decode cX4_pour 39 = .ok (.iload_n 3, 1) := by decide +kernel
theorem dX4_pour_40 : decode cX4_pour 40 = .ok (.sipush 400, 3) := by decide +kernel
theorem dX4_pour_43 : decode cX4_pour 43 = .ok (.if_icmp .le 10, 3) := by decide +kernel
theorem dX4_pour_46 : decode cX4_pour 46 = .ok (.aload_n 0, 1) := by decide +kernel
theorem dX4_pour_47 : decode cX4_pour 47 = .ok (.bipush (-6), 2) := by decide +kernel
theorem dX4_pour_49 : decode cX4_pour 49 = .ok (.invokevirtual 36, 3) := by decide +kernel
theorem dX4_pour_52 : decode cX4_pour 52 = .ok (.ireturn, 1) := by decide +kernel
theorem dX4_pour_53 : decode cX4_pour 53 = .ok (.aload_n 0, 1) := by decide +kernel
theorem dX4_pour_54 : decode cX4_pour 54 = .ok (.iload_n 1, 1) := by decide +kernel
theorem dX4_pour_55 : decode cX4_pour 55 = .ok (.iload_n 2, 1) := by decide +kernel
theorem dX4_pour_56 : decode cX4_pour 56 = .ok (.iload_n 3, 1) := by decide +kernel
theorem dX4_pour_57 : decode cX4_pour 57 = .ok (.invokevirtual 115, 3) := by decide +kernel
theorem dX4_pour_60 : decode cX4_pour 60 = .ok (.ifCond .ne 10, 3) := by decide +kernel
theorem dX4_pour_63 : decode cX4_pour 63 = .ok (.aload_n 0, 1) := by decide +kernel
theorem dX4_pour_64 : decode cX4_pour 64 = .ok (.bipush (-3), 2) := by decide +kernel
theorem dX4_pour_66 : decode cX4_pour 66 = .ok (.invokevirtual 36, 3) := by decide +kernel
theorem dX4_pour_69 : decode cX4_pour 69 = .ok (.ireturn, 1) := by decide +kernel
theorem dX4_pour_70 : decode cX4_pour 70 = .ok (.aload_n 0, 1) := by decide +kernel
theorem dX4_pour_71 : decode cX4_pour 71 = .ok (.iload_n 1, 1) := by decide +kernel
theorem dX4_pour_72 : decode cX4_pour 72 = .ok (.iload_n 2, 1) := by decide +kernel
theorem dX4_pour_73 : decode cX4_pour 73 = .ok (.iload_n 3, 1) := by decide +kernel
theorem dX4_pour_74 : decode cX4_pour 74 = .ok (.invokevirtual 118, 3) := by decide +kernel
theorem dX4_pour_77 : decode cX4_pour 77 = .ok (.aload_n 0, 1) := by decide +kernel
theorem dX4_pour_78 : decode cX4_pour 78 = .ok (.getfield 9, 3) := by decide +kernel
theorem dX4_pour_81 : decode cX4_pour 81 = .ok (.iload_n 2, 1) := by decide +kernel
theorem dX4_pour_82 : decode cX4_pour 82 = .ok (.iconst 3, 1) := by decide +kernel
theorem dX4_pour_83 : decode cX4_pour 83 = .ok (.invokestatic 44, 3) := by decide +kernel
theorem dX4_pour_86 : decode cX4_pour 86 = .ok (.iaload, 1) := by decide +kernel
theorem dX4_pour_87 : decode cX4_pour 87 = .ok (.ireturn, 1) := by decide +kernel
theorem dX4_years_0 : decode cX4_years 0 = .ok (.iload_n 1, 1) := by decide +kernel
theorem dX4_years_1 : decode cX4_years 1 = .ok (.iconst 1, 1) := by decide +kernel
theorem dX4_years_2 : decode cX4_years 2 = .ok (.if_icmp .ge 10, 3) := by decide +kernel
theorem dX4_years_5 : decode cX4_years 5 = .ok (.aload_n 0, 1) := by decide +kernel
theorem dX4_years_6 : decode cX4_years 6 = .ok (.bipush (-4), 2) := by decide +kernel
theorem dX4_years_8 : decode cX4_years 8 = .ok (.invokevirtual 36, 3) := by decide +kernel
theorem dX4_years_11 : decode cX4_years 11 = .ok (.ireturn, 1) := by decide +kernel
theorem dX4_years_12 : decode cX4_years 12 = .ok (.iload_n 1, 1) := by decide +kernel
theorem dX4_years_13 : decode cX4_years 13 = .ok (.bipush 60, 2) := by decide +kernel
theorem dX4_years_15 : decode cX4_years 15 = .ok (.if_icmp .gt 17, 3) := by decide +kernel
theorem dX4_years_18 : decode cX4_years 18 = .ok (.aload_n 0, 1) := by decide +kernel
theorem dX4_years_19 : decode cX4_years 19 = .ok (.getfield 9, 3) := by decide +kernel
theorem dX4_years_22 : decode cX4_years 22 = .ok (.iconst 1, 1) := by decide +kernel
theorem dX4_years_23 : decode cX4_years 23 = .ok (.iaload, 1) := by decide +kernel
theorem dX4_years_24 : decode cX4_years 24 = .ok (.iload_n 1, 1) := by decide +kernel
theorem dX4_years_25 : decode cX4_years 25 = .ok (.iadd, 1) := by decide +kernel
theorem dX4_years_26 : decode cX4_years 26 = .ok (.sipush 999, 3) := by decide +kernel
theorem dX4_years_29 : decode cX4_years 29 = .ok (.if_icmp .le 10, 3) := by decide +kernel
theorem dX4_years_32 : decode cX4_years 32 = .ok (.aload_n 0, 1) := by decide +kernel
theorem dX4_years_33 : decode cX4_years 33 = .ok (.bipush (-6), 2) := by decide +kernel
theorem dX4_years_35 : decode cX4_years 35 = .ok (.invokevirtual 36, 3) := by decide +kernel
theorem dX4_years_38 : decode cX4_years 38 = .ok (.ireturn, 1) := by decide +kernel
theorem dX4_years_39 : decode cX4_years 39 = .ok (.aload_n 0, 1) := by decide +kernel
theorem dX4_years_40 : decode cX4_years 40 = .ok (.aload_n 0, 1) := by decide +kernel
theorem dX4_years_41 : decode cX4_years 41 = .ok (.getfield 9, 3) := by decide +kernel
theorem dX4_years_44 : decode cX4_years 44 = .ok (.iload_n 1, 1) := by decide +kernel
theorem dX4_years_45 : decode cX4_years 45 = .ok (.invokevirtual 82, 3) := by decide +kernel
theorem dX4_years_48 : decode cX4_years 48 = .ok (.aload_n 0, 1) := by decide +kernel
theorem dX4_years_49 : decode cX4_years 49 = .ok (.getfield 9, 3) := by decide +kernel
theorem dX4_years_52 : decode cX4_years 52 = .ok (.iconst 1, 1) := by decide +kernel
theorem dX4_years_53 : decode cX4_years 53 = .ok (.iaload, 1) := by decide +kernel
theorem dX4_years_54 : decode cX4_years 54 = .ok (.ireturn, 1) := by decide +kernel
theorem dX4_wrongYears_0 : decode cX4_wrongYears 0 = .ok (.iload_n 0, 1) := by decide +kernel
theorem dX4_wrongYears_1 : decode cX4_wrongYears 1 = .ok (.ifCond .ge 8, 3) := by decide +kernel
theorem dX4_wrongYears_4 : decode cX4_wrongYears 4 = .ok (.bipush (-4), 2) := by decide +kernel
theorem dX4_wrongYears_6 : decode cX4_wrongYears 6 = .ok (.goto 16, 3) := by decide +kernel
theorem dX4_wrongYears_9 : decode cX4_wrongYears 9 = .ok (.iload_n 0, 1) := by decide +kernel
theorem dX4_wrongYears_10 : decode cX4_wrongYears 10 = .ok (.sipush 200, 3) := by decide +kernel
theorem dX4_wrongYears_13 : decode cX4_wrongYears 13 = .ok (.if_icmp .le 8, 3) := by decide +kernel
theorem dX4_wrongYears_16 : decode cX4_wrongYears 16 = .ok (.bipush (-6), 2) := by decide +kernel
theorem dX4_wrongYears_18 : decode cX4_wrongYears 18 = .ok (.goto 4, 3) := by decide +kernel
theorem dX4_wrongYears_21 : decode cX4_wrongYears 21 = .ok (.iconst 0, 1) := by decide +kernel
theorem dX4_wrongYears_22 : decode cX4_wrongYears 22 = .ok (.ireturn, 1) := by decide +kernel
theorem dX4_behind_0 : decode cX4_behind 0 = .ok (.aload_n 0, 1) := by decide +kernel
theorem dX4_behind_1 : decode cX4_behind 1 = .ok (.iload_n 1, 1) := by decide +kernel
theorem dX4_behind_2 : decode cX4_behind 2 = .ok (.invokevirtual 111, 3) := by decide +kernel
theorem dX4_behind_5 : decode cX4_behind 5 = .ok (.ifCond .ne 7, 3) := by decide +kernel
theorem dX4_behind_8 : decode cX4_behind 8 = .ok (.iconst (-1), 1) := by decide +kernel
theorem dX4_behind_9 : decode cX4_behind 9 = .ok (.goto 7, 3) := by decide +kernel
theorem dX4_behind_12 : decode cX4_behind 12 = .ok (.iload_n 2, 1) := by decide +kernel
theorem dX4_behind_13 : decode cX4_behind 13 = .ok (.invokestatic 128, 3) := by decide +kernel
theorem dX4_behind_16 : decode cX4_behind 16 = .ok (.istore 4, 2) := by decide +kernel
theorem dX4_behind_18 : decode cX4_behind 18 = .ok (.iload 4, 2) := by decide +kernel
theorem dX4_behind_20 : decode cX4_behind 20 = .ok (.ifCond .ne 16, 3) := by decide +kernel
theorem dX4_behind_23 : decode cX4_behind 23 = .ok (.iload_n 3, 1) := by decide +kernel
theorem dX4_behind_24 : decode cX4_behind 24 = .ok (.iconst 0, 1) := by decide +kernel
theorem dX4_behind_25 : decode cX4_behind 25 = .ok (.iconst 2, 1) := by decide +kernel
theorem dX4_behind_26 : decode cX4_behind 26 = .ok (.invokestatic 40, 3) := by decide +kernel
theorem dX4_behind_29 : decode cX4_behind 29 = .ok (.ifCond .ne 7, 3) := by decide +kernel
theorem dX4_behind_32 : decode cX4_behind 32 = .ok (.bipush (-2), 2) := by decide +kernel
theorem dX4_behind_34 : decode cX4_behind 34 = .ok (.istore 4, 2) := by decide +kernel
theorem dX4_behind_36 : decode cX4_behind 36 = .ok (.iload 4, 2) := by decide +kernel
theorem dX4_behind_38 : decode cX4_behind 38 = .ok (.ifCond .eq 10, 3) := by decide +kernel
theorem dX4_behind_41 : decode cX4_behind 41 = .ok (.aload_n 0, 1) := by decide +kernel
theorem dX4_behind_42 : decode cX4_behind 42 = .ok (.iload 4, 2) := by decide +kernel
theorem dX4_behind_44 : decode cX4_behind 44 = .ok (.invokevirtual 36, 3) := by decide +kernel
theorem dX4_behind_47 : decode cX4_behind 47 = .ok (.ireturn, 1) := by decide +kernel
theorem dX4_behind_48 : decode cX4_behind 48 = .ok (.aload_n 0, 1) := by decide +kernel
theorem dX4_behind_49 : decode cX4_behind 49 = .ok (.iload_n 2, 1) := by decide +kernel
theorem dX4_behind_50 : decode cX4_behind 50 = .ok (.invokevirtual 131, 3) := by decide +kernel
theorem dX4_behind_53 : decode cX4_behind 53 = .ok (.aload_n 0, 1) := by decide +kernel
theorem dX4_behind_54 : decode cX4_behind 54 = .ok (.getfield 13, 3) := by decide +kernel
theorem dX4_behind_57 : decode cX4_behind 57 = .ok (.iload_n 1, 1) := by decide +kernel
theorem dX4_behind_58 : decode cX4_behind 58 = .ok (.iload_n 3, 1) := by decide +kernel
theorem dX4_behind_59 : decode cX4_behind 59 = .ok (.ifCond .ne 7, 3) := by decide +kernel
theorem dX4_behind_62 : decode cX4_behind 62 = .ok (.iconst 2, 1) := by decide +kernel
theorem dX4_behind_63 : decode cX4_behind 63 = .ok (.goto 13, 3) := by decide +kernel
theorem dX4_behind_66 : decode cX4_behind 66 = .ok (.iload_n 3, 1) := by decide +kernel
theorem dX4_behind_67 : decode cX4_behind 67 = .ok (.iconst 1, 1) := by decide +kernel
theorem dX4_behind_68 : decode cX4_behind 68 = .ok (.if_icmp .ne 7, 3) := by decide +kernel
theorem dX4_behind_71 : decode cX4_behind 71 = .ok (.iconst 3, 1) := by decide +kernel
theorem dX4_behind_72 : decode cX4_behind 72 = .ok (.goto 4, 3) := by decide +kernel
theorem dX4_behind_75 : decode cX4_behind 75 = .ok (.iconst 5, 1) := by decide +kernel
theorem dX4_behind_76 : decode cX4_behind 76 = .ok (.invokestatic 44, 3) := by decide +kernel
theorem dX4_behind_79 : decode cX4_behind 79 = .ok (.iaload, 1) := by decide +kernel
theorem dX4_behind_80 : decode cX4_behind 80 = .ok (.ireturn, 1) := by decide +kernel
theorem dX4_allBehind_0 : decode cX4_allBehind 0 = .ok (.iload_n 1, 1) := by decide +kernel
theorem dX4_allBehind_1 : decode cX4_allBehind 1 = .ok (.invokestatic 128, 3) := by decide +kernel
theorem dX4_allBehind_4 : decode cX4_allBehind 4 = .ok (.istore_n 3, 1) := by decide +kernel
theorem dX4_allBehind_5 : decode cX4_allBehind 5 = .ok (.iload_n 3, 1) := by decide +kernel
theorem dX4_allBehind_6 : decode cX4_allBehind 6 = .ok (.ifCond .ne 15, 3) := by decide +kernel
theorem dX4_allBehind_9 : decode cX4_allBehind 9 = .ok (.iload_n 2, 1) := by decide +kernel
theorem dX4_allBehind_10 : decode cX4_allBehind 10 = .ok (.iconst 0, 1) := by decide +kernel
theorem dX4_allBehind_11 : decode cX4_allBehind 11 = .ok (.iconst 2, 1) := by decide +kernel
theorem dX4_allBehind_12 : decode cX4_allBehind 12 = .ok (.invokestatic 40, 3) := by decide +kernel
theorem dX4_allBehind_15 : decode cX4_allBehind 15 = .ok (.ifCond .ne 6, 3) := by decide +kernel
theorem dX4_allBehind_18 : decode cX4_allBehind 18 = .ok (.bipush (-2), 2) := by decide +kernel
theorem dX4_allBehind_20 : decode cX4_allBehind 20 = .ok (.istore_n 3, 1) := by decide +kernel
theorem dX4_allBehind_21 : decode cX4_allBehind 21 = .ok (.iload_n 3, 1) := by decide +kernel
theorem dX4_allBehind_22 : decode cX4_allBehind 22 = .ok (.ifCond .eq 9, 3) := by decide +kernel
theorem dX4_allBehind_25 : decode cX4_allBehind 25 = .ok (.aload_n 0, 1) := by decide +kernel
theorem dX4_allBehind_26 : decode cX4_allBehind 26 = .ok (.iload_n 3, 1) := by decide +kernel
theorem dX4_allBehind_27 : decode cX4_allBehind 27 = .ok (.invokevirtual 36, 3) := by decide +kernel
theorem dX4_allBehind_30 : decode cX4_allBehind 30 = .ok (.ireturn, 1) := by decide +kernel
theorem dX4_allBehind_31 : decode cX4_allBehind 31 = .ok (.aload_n 0, 1) := by decide +kernel
theorem dX4_allBehind_32 : decode cX4_allBehind 32 = .ok (.iload_n 1, 1) := by decide +kernel
theorem dX4_allBehind_33 : decode cX4_allBehind 33 = .ok (.invokevirtual 131, 3) := by decide +kernel
theorem dX4_allBehind_36 : decode cX4_allBehind 36 = .ok (.iload_n 2, 1) := by decide +kernel
theorem dX4_allBehind_37 : decode cX4_allBehind 37 = .ok (.iconst 2, 1) := by decide +kernel
theorem dX4_allBehind_38 : decode cX4_allBehind 38 = .ok (.if_icmp .ge 20, 3) := by decide +kernel
theorem dX4_allBehind_41 : decode cX4_allBehind 41 = .ok (.aload_n 0, 1) := by decide +kernel
theorem dX4_allBehind_42 : decode cX4_allBehind 42 = .ok (.getfield 13, 3) := by decide +kernel
theorem dX4_allBehind_45 : decode cX4_allBehind 45 = .ok (.iload_n 2, 1) := by decide +kernel
theorem dX4_allBehind_46 : decode cX4_allBehind 46 = .ok (.ifCond .ne 7, 3) := by decide +kernel
theorem dX4_allBehind_49 : decode cX4_allBehind 49 = .ok (.iconst 2, 1) := by decide +kernel
theorem dX4_allBehind_50 : decode cX4_allBehind 50 = .ok (.goto 4, 3) := by decide +kernel
theorem dX4_allBehind_53 : decode cX4_allBehind 53 = .ok (.iconst 5, 1) := by decide +kernel
theorem dX4_allBehind_54 : decode cX4_allBehind 54 = .ok (.invokestatic 135, 3) := by decide +kernel
theorem dX4_allBehind_57 : decode cX4_allBehind 57 = .ok (.ireturn, 1) := by decide +kernel
theorem dX4_allBehind_58 : decode cX4_allBehind 58 = .ok (.bipush (-9), 2) := by decide +kernel
theorem dX4_allBehind_60 : decode cX4_allBehind 60 = .ok (.istore 4, 2) := by decide +kernel
theorem dX4_allBehind_62 : decode cX4_allBehind 62 = .ok (.iconst 0, 1) := by decide +kernel
theorem dX4_allBehind_63 : decode cX4_allBehind 63 = .ok (.istore 5, 2) := by decide +kernel
theorem dX4_allBehind_65 : decode cX4_allBehind 65 = .ok (.iload 5, 2) := by decide +kernel
theorem dX4_allBehind_67 : decode cX4_allBehind 67 = .ok (.aload_n 0, 1) := by decide +kernel
theorem dX4_allBehind_68 : decode cX4_allBehind 68 = .ok (.getfield 13, 3) := by decide +kernel
theorem dX4_allBehind_71 : decode cX4_allBehind 71 = .ok (.iconst 0, 1) := by decide +kernel
theorem dX4_allBehind_72 : decode cX4_allBehind 72 = .ok (.iaload, 1) := by decide +kernel
theorem dX4_allBehind_73 : decode cX4_allBehind 73 = .ok (.if_icmp .ge 43, 3) := by decide +kernel
theorem dX4_allBehind_76 : decode cX4_allBehind 76 = .ok (.iload 4, 2) := by decide +kernel
theorem dX4_allBehind_78 : decode cX4_allBehind 78 = .ok (.ifCond .lt 28, 3) := by decide +kernel
theorem dX4_allBehind_81 : decode cX4_allBehind 81 = .ok (.aload_n 0, 1) := by decide +kernel
theorem dX4_allBehind_82 : decode cX4_allBehind 82 = .ok (.getfield 13, 3) := by decide +kernel
theorem dX4_allBehind_85 : decode cX4_allBehind 85 = .ok (.iload 5, 2) := by decide +kernel
theorem dX4_allBehind_87 : decode cX4_allBehind 87 = .ok (.iconst 2, 1) := by decide +kernel
theorem dX4_allBehind_88 : decode cX4_allBehind 88 = .ok (.invokestatic 44, 3) := by decide +kernel
theorem dX4_allBehind_91 : decode cX4_allBehind 91 = .ok (.iaload, 1) := by decide +kernel
theorem dX4_allBehind_92 : decode cX4_allBehind 92 = .ok (.aload_n 0, 1) := by decide +kernel
theorem dX4_allBehind_93 : decode cX4_allBehind 93 = .ok (.getfield 13, 3) := by decide +kernel
theorem dX4_allBehind_96 : decode cX4_allBehind 96 = .ok (.iload 4, 2) := by decide +kernel
theorem dX4_allBehind_98 : decode cX4_allBehind 98 = .ok (.iconst 2, 1) := by decide +kernel
theorem dX4_allBehind_99 : decode cX4_allBehind 99 = .ok (.invokestatic 44, 3) := by decide +kernel
theorem dX4_allBehind_102 : decode cX4_allBehind 102 = .ok (.iaload, 1) := by decide +kernel
theorem dX4_allBehind_103 : decode cX4_allBehind 103 = .ok (.if_icmp .le 7, 3) := by decide +kernel
theorem dX4_allBehind_106 : decode cX4_allBehind 106 = .ok (.iload 5, 2) := by decide +kernel
theorem dX4_allBehind_108 : decode cX4_allBehind 108 = .ok (.istore 4, 2) := by decide +kernel
theorem dX4_allBehind_110 : decode cX4_allBehind 110 = .ok (.iinc 5 1, 3) := by decide +kernel
theorem dX4_allBehind_113 : decode cX4_allBehind 113 = .ok (.goto (-48), 3) := by decide +kernel
theorem dX4_allBehind_116 : decode cX4_allBehind 116 = .ok (.iload 4, 2) := by decide +kernel
theorem dX4_allBehind_118 : decode cX4_allBehind 118 = .ok (.ireturn, 1) := by decide +kernel
theorem dX4_gcd_0 : decode cX4_gcd 0 = .ok (.lload_n 0, 1) := by decide +kernel
theorem dX4_gcd_1 : decode cX4_gcd 1 = .ok (.lstore 4, 2) := by decide +kernel
theorem dX4_gcd_3 : decode cX4_gcd 3 = .ok (.lload_n 2, 1) := by decide +kernel
theorem dX4_gcd_4 : decode cX4_gcd 4 = .ok (.lstore 6, 2) := by decide +kernel
theorem dX4_gcd_6 : decode cX4_gcd 6 = .ok (.lload 6, 2) := by decide +kernel
theorem dX4_gcd_8 : decode cX4_gcd 8 = .ok (.lconst 0, 1) := by decide +kernel
theorem dX4_gcd_9 : decode cX4_gcd 9 = .ok (.lcmp, 1) := by decide +kernel
theorem dX4_gcd_10 : decode cX4_gcd 10 = .ok (.ifCond .eq 21, 3) := by decide +kernel
theorem dX4_gcd_13 : decode cX4_gcd 13 = .ok (.lload 4, 2) := by decide +kernel
theorem dX4_gcd_15 : decode cX4_gcd 15 = .ok (.lload 6, 2) := by decide +kernel
theorem dX4_gcd_17 : decode cX4_gcd 17 = .ok (.lrem, 1) := by decide +kernel
theorem dX4_gcd_18 : decode cX4_gcd 18 = .ok (.lstore 8, 2) := by decide +kernel
theorem dX4_gcd_20 : decode cX4_gcd 20 = .ok (.lload 6, 2) := by decide +kernel
theorem dX4_gcd_22 : decode cX4_gcd 22 = .ok (.lstore 4, 2) := by decide +kernel
theorem dX4_gcd_24 : decode cX4_gcd 24 = .ok (.lload 8, 2) := by decide +kernel
theorem dX4_gcd_26 : decode cX4_gcd 26 = .ok (.lstore 6, 2) := by decide +kernel
theorem dX4_gcd_28 : decode cX4_gcd 28 = .ok (.goto (-22), 3) := by decide +kernel
theorem dX4_gcd_31 : decode cX4_gcd 31 = .ok (.lload 4, 2) := by decide +kernel
theorem dX4_gcd_33 : decode cX4_gcd 33 = .ok (.lreturn, 1) := by decide +kernel
theorem dX4_partOf_0 : decode cX4_partOf 0 = .ok (.lload_n 0, 1) := by decide +kernel
theorem dX4_partOf_1 : decode cX4_partOf 1 = .ok (.lconst 0, 1) := by decide +kernel
theorem dX4_partOf_2 : decode cX4_partOf 2 = .ok (.lcmp, 1) := by decide +kernel
theorem dX4_partOf_3 : decode cX4_partOf 3 = .ok (.ifCond .ne 7, 3) := by decide +kernel
theorem dX4_partOf_6 : decode cX4_partOf 6 = .ok (.iload 4, 2) := by decide +kernel
theorem dX4_partOf_8 : decode cX4_partOf 8 = .ok (.i2l, 1) := by decide +kernel
theorem dX4_partOf_9 : decode cX4_partOf 9 = .ok (.lreturn, 1) := by decide +kernel
theorem dX4_partOf_10 : decode cX4_partOf 10 = .ok (.iload 4, 2) := by decide +kernel
theorem dX4_partOf_12 : decode cX4_partOf 12 = .ok (.ifCond .ne 7, 3) := by decide +kernel
theorem dX4_partOf_15 : decode cX4_partOf 15 = .ok (.lload_n 0, 1) := by decide +kernel
theorem dX4_partOf_16 : decode cX4_partOf 16 = .ok (.goto 4, 3) := by decide +kernel
theorem dX4_partOf_19 : decode cX4_partOf 19 = .ok (.lload_n 2, 1) := by decide +kernel
theorem dX4_partOf_20 : decode cX4_partOf 20 = .ok (.lload_n 0, 1) := by decide +kernel
theorem dX4_partOf_21 : decode cX4_partOf 21 = .ok (.lload_n 2, 1) := by decide +kernel
theorem dX4_partOf_22 : decode cX4_partOf 22 = .ok (.invokestatic 138, 3) := by decide +kernel
theorem dX4_partOf_25 : decode cX4_partOf 25 = .ok (.ldiv, 1) := by decide +kernel
theorem dX4_partOf_26 : decode cX4_partOf 26 = .ok (.lreturn, 1) := by decide +kernel
theorem dX4_theirs_0 : decode cX4_theirs 0 = .ok (.iload_n 1, 1) := by decide +kernel
theorem dX4_theirs_1 : decode cX4_theirs 1 = .ok (.iconst (-1), 1) := by decide +kernel
theorem dX4_theirs_2 : decode cX4_theirs 2 = .ok (.if_icmp .eq 15, 3) := by decide +kernel
theorem dX4_theirs_5 : decode cX4_theirs 5 = .ok (.aload_n 0, 1) := by decide +kernel
theorem dX4_theirs_6 : decode cX4_theirs 6 = .ok (.iload_n 1, 1) := by decide +kernel
theorem dX4_theirs_7 : decode cX4_theirs 7 = .ok (.invokevirtual 111, 3) := by decide +kernel
theorem dX4_theirs_10 : decode cX4_theirs 10 = .ok (.ifCond .ne 7, 3) := by decide +kernel
theorem dX4_theirs_13 : decode cX4_theirs 13 = .ok (.iconst (-1), 1) := by decide +kernel
theorem dX4_theirs_14 : decode cX4_theirs 14 = .ok (.goto 7, 3) := by decide +kernel
theorem dX4_theirs_17 : decode cX4_theirs 17 = .ok (.iload_n 2, 1) := by decide +kernel
theorem dX4_theirs_18 : decode cX4_theirs 18 = .ok (.invokestatic 128, 3) := by decide +kernel
theorem dX4_theirs_21 : decode cX4_theirs 21 = .ok (.istore 4, 2) := by decide +kernel
theorem dX4_theirs_23 : decode cX4_theirs 23 = .ok (.iload 4, 2) := by decide +kernel
theorem dX4_theirs_25 : decode cX4_theirs 25 = .ok (.ifCond .ne 16, 3) := by decide +kernel
theorem dX4_theirs_28 : decode cX4_theirs 28 = .ok (.iload_n 3, 1) := by decide +kernel
theorem dX4_theirs_29 : decode cX4_theirs 29 = .ok (.iconst 0, 1) := by decide +kernel
theorem dX4_theirs_30 : decode cX4_theirs 30 = .ok (.iconst 1, 1) := by decide +kernel
theorem dX4_theirs_31 : decode cX4_theirs 31 = .ok (.invokestatic 40, 3) := by decide +kernel
theorem dX4_theirs_34 : decode cX4_theirs 34 = .ok (.ifCond .ne 7, 3) := by decide +kernel
theorem dX4_theirs_37 : decode cX4_theirs 37 = .ok (.bipush (-2), 2) := by decide +kernel
theorem dX4_theirs_39 : decode cX4_theirs 39 = .ok (.istore 4, 2) := by decide +kernel
theorem dX4_theirs_41 : decode cX4_theirs 41 = .ok (.iload 4, 2) := by decide +kernel
theorem dX4_theirs_43 : decode cX4_theirs 43 = .ok (.ifCond .eq 10, 3) := by decide +kernel
theorem dX4_theirs_46 : decode cX4_theirs 46 = .ok (.aload_n 0, 1) := by decide +kernel
theorem dX4_theirs_47 : decode cX4_theirs 47 = .ok (.iload 4, 2) := by decide +kernel
theorem dX4_theirs_49 : decode cX4_theirs 49 = .ok (.invokevirtual 142, 3) := by decide +kernel
theorem dX4_theirs_52 : decode cX4_theirs 52 = .ok (.lreturn, 1) := by decide +kernel
theorem dX4_theirs_53 : decode cX4_theirs 53 = .ok (.aload_n 0, 1) := by decide +kernel
theorem dX4_theirs_54 : decode cX4_theirs 54 = .ok (.iload_n 2, 1) := by decide +kernel
theorem dX4_theirs_55 : decode cX4_theirs 55 = .ok (.invokevirtual 131, 3) := by decide +kernel
theorem dX4_theirs_58 : decode cX4_theirs 58 = .ok (.iload_n 1, 1) := by decide +kernel
theorem dX4_theirs_59 : decode cX4_theirs 59 = .ok (.ifCond .ge 14, 3) := by decide +kernel
theorem dX4_theirs_62 : decode cX4_theirs 62 = .ok (.aload_n 0, 1) := by decide +kernel
theorem dX4_theirs_63 : decode cX4_theirs 63 = .ok (.getfield 13, 3) := by decide +kernel
theorem dX4_theirs_66 : decode cX4_theirs 66 = .ok (.iconst 5, 1) := by decide +kernel
theorem dX4_theirs_67 : decode cX4_theirs 67 = .ok (.invokestatic 135, 3) := by decide +kernel
theorem dX4_theirs_70 : decode cX4_theirs 70 = .ok (.goto 13, 3) := by decide +kernel
theorem dX4_theirs_73 : decode cX4_theirs 73 = .ok (.aload_n 0, 1) := by decide +kernel
theorem dX4_theirs_74 : decode cX4_theirs 74 = .ok (.getfield 13, 3) := by decide +kernel
theorem dX4_theirs_77 : decode cX4_theirs 77 = .ok (.iload_n 1, 1) := by decide +kernel
theorem dX4_theirs_78 : decode cX4_theirs 78 = .ok (.iconst 5, 1) := by decide +kernel
theorem dX4_theirs_79 : decode cX4_theirs 79 = .ok (.invokestatic 44, 3) := by decide +kernel
theorem dX4_theirs_82 : decode cX4_theirs 82 = .ok (.iaload, 1) := by decide +kernel
theorem dX4_theirs_83 : decode cX4_theirs 83 = .ok (.istore 5, 2) := by decide +kernel
theorem dX4_theirs_85 : decode cX4_theirs 85 = .ok (.iload_n 1, 1) := by decide +kernel
theorem dX4_theirs_86 : decode cX4_theirs 86 = .ok (.ifCond .ge 14, 3) := by decide +kernel
theorem dX4_theirs_89 : decode cX4_theirs 89 = .ok (.aload_n 0, 1) := by decide +kernel
theorem dX4_theirs_90 : decode cX4_theirs 90 = .ok (.getfield 13, 3) := by decide +kernel
theorem dX4_theirs_93 : decode cX4_theirs 93 = .ok (.iconst 2, 1) := by decide +kernel
theorem dX4_theirs_94 : decode cX4_theirs 94 = .ok (.invokestatic 135, 3) := by decide +kernel
theorem dX4_theirs_97 : decode cX4_theirs 97 = .ok (.goto 13, 3) := by decide +kernel
theorem dX4_theirs_100 : decode cX4_theirs 100 = .ok (.aload_n 0, 1) := by decide +kernel
theorem dX4_theirs_101 : decode cX4_theirs 101 = .ok (.getfield 13, 3) := by decide +kernel
theorem dX4_theirs_104 : decode cX4_theirs 104 = .ok (.iload_n 1, 1) := by decide +kernel
theorem dX4_theirs_105 : decode cX4_theirs 105 = .ok (.iconst 2, 1) := by decide +kernel
theorem dX4_theirs_106 : decode cX4_theirs 106 = .ok (.invokestatic 44, 3) := by decide +kernel
theorem dX4_theirs_109 : decode cX4_theirs 109 = .ok (.iaload, 1) := by decide +kernel
theorem dX4_theirs_110 : decode cX4_theirs 110 = .ok (.istore 6, 2) := by decide +kernel
theorem dX4_theirs_112 : decode cX4_theirs 112 = .ok (.iload 5, 2) := by decide +kernel
theorem dX4_theirs_114 : decode cX4_theirs 114 = .ok (.i2l, 1) := by decide +kernel
theorem dX4_theirs_115 : decode cX4_theirs 115 = .ok (.iload 5, 2) := by decide +kernel
theorem dX4_theirs_117 : decode cX4_theirs 117 = .ok (.iload 6, 2) := by decide +kernel
theorem dX4_theirs_119 : decode cX4_theirs 119 = .ok (.iadd, 1) := by decide +kernel
theorem dX4_theirs_120 : decode cX4_theirs 120 = .ok (.i2l, 1) := by decide +kernel
theorem dX4_theirs_121 : decode cX4_theirs 121 = .ok (.iload_n 3, 1) := by decide +kernel
theorem dX4_theirs_122 : decode cX4_theirs 122 = .ok (.invokestatic 146, 3) := by decide +kernel
theorem dX4_theirs_125 : decode cX4_theirs 125 = .ok (.lreturn, 1) := by decide +kernel
theorem dX4_exciseOf_0 : decode cX4_exciseOf 0 = .ok (.aload_n 0, 1) := by decide +kernel
theorem dX4_exciseOf_1 : decode cX4_exciseOf 1 = .ok (.iload_n 1, 1) := by decide +kernel
theorem dX4_exciseOf_2 : decode cX4_exciseOf 2 = .ok (.iconst 2, 1) := by decide +kernel
theorem dX4_exciseOf_3 : decode cX4_exciseOf 3 = .ok (.invokestatic 44, 3) := by decide +kernel
theorem dX4_exciseOf_6 : decode cX4_exciseOf 6 = .ok (.iaload, 1) := by decide +kernel
theorem dX4_exciseOf_7 : decode cX4_exciseOf 7 = .ok (.aload_n 0, 1) := by decide +kernel
theorem dX4_exciseOf_8 : decode cX4_exciseOf 8 = .ok (.iload_n 1, 1) := by decide +kernel
theorem dX4_exciseOf_9 : decode cX4_exciseOf 9 = .ok (.iconst 5, 1) := by decide +kernel
theorem dX4_exciseOf_10 : decode cX4_exciseOf 10 = .ok (.invokestatic 44, 3) := by decide +kernel
theorem dX4_exciseOf_13 : decode cX4_exciseOf 13 = .ok (.iaload, 1) := by decide +kernel
theorem dX4_exciseOf_14 : decode cX4_exciseOf 14 = .ok (.iadd, 1) := by decide +kernel
theorem dX4_exciseOf_15 : decode cX4_exciseOf 15 = .ok (.bipush 10, 2) := by decide +kernel
theorem dX4_exciseOf_17 : decode cX4_exciseOf 17 = .ok (.idiv, 1) := by decide +kernel
theorem dX4_exciseOf_18 : decode cX4_exciseOf 18 = .ok (.aload_n 0, 1) := by decide +kernel
theorem dX4_exciseOf_19 : decode cX4_exciseOf 19 = .ok (.iconst 4, 1) := by decide +kernel
theorem dX4_exciseOf_20 : decode cX4_exciseOf 20 = .ok (.iaload, 1) := by decide +kernel
theorem dX4_exciseOf_21 : decode cX4_exciseOf 21 = .ok (.imul, 1) := by decide +kernel
theorem dX4_exciseOf_22 : decode cX4_exciseOf 22 = .ok (.ireturn, 1) := by decide +kernel
theorem dX4_exciseAll_0 : decode cX4_exciseAll 0 = .ok (.iconst 0, 1) := by decide +kernel
theorem dX4_exciseAll_1 : decode cX4_exciseAll 1 = .ok (.istore_n 1, 1) := by decide +kernel
theorem dX4_exciseAll_2 : decode cX4_exciseAll 2 = .ok (.iconst 0, 1) := by decide +kernel
theorem dX4_exciseAll_3 : decode cX4_exciseAll 3 = .ok (.istore_n 2, 1) := by decide +kernel
theorem dX4_exciseAll_4 : decode cX4_exciseAll 4 = .ok (.iload_n 2, 1) := by decide +kernel
theorem dX4_exciseAll_5 : decode cX4_exciseAll 5 = .ok (.aload_n 0, 1) := by decide +kernel
theorem dX4_exciseAll_6 : decode cX4_exciseAll 6 = .ok (.iconst 0, 1) := by decide +kernel
theorem dX4_exciseAll_7 : decode cX4_exciseAll 7 = .ok (.iaload, 1) := by decide +kernel
theorem dX4_exciseAll_8 : decode cX4_exciseAll 8 = .ok (.if_icmp .ge 17, 3) := by decide +kernel
theorem dX4_exciseAll_11 : decode cX4_exciseAll 11 = .ok (.iload_n 1, 1) := by decide +kernel
theorem dX4_exciseAll_12 : decode cX4_exciseAll 12 = .ok (.aload_n 0, 1) := by decide +kernel
theorem dX4_exciseAll_13 : decode cX4_exciseAll 13 = .ok (.iload_n 2, 1) := by decide +kernel
theorem dX4_exciseAll_14 : decode cX4_exciseAll 14 = .ok (.invokestatic 150, 3) := by decide +kernel
theorem dX4_exciseAll_17 : decode cX4_exciseAll 17 = .ok (.iadd, 1) := by decide +kernel
theorem dX4_exciseAll_18 : decode cX4_exciseAll 18 = .ok (.istore_n 1, 1) := by decide +kernel
theorem dX4_exciseAll_19 : decode cX4_exciseAll 19 = .ok (.iinc 2 1, 3) := by decide +kernel
theorem dX4_exciseAll_22 : decode cX4_exciseAll 22 = .ok (.goto (-18), 3) := by decide +kernel
theorem dX4_exciseAll_25 : decode cX4_exciseAll 25 = .ok (.iload_n 1, 1) := by decide +kernel
theorem dX4_exciseAll_26 : decode cX4_exciseAll 26 = .ok (.ireturn, 1) := by decide +kernel
theorem dX4_excise_0 : decode cX4_excise 0 = .ok (.iload_n 1, 1) := by decide +kernel
theorem dX4_excise_1 : decode cX4_excise 1 = .ok (.iconst (-1), 1) := by decide +kernel
theorem dX4_excise_2 : decode cX4_excise 2 = .ok (.if_icmp .ne 11, 3) := by decide +kernel
theorem dX4_excise_5 : decode cX4_excise 5 = .ok (.aload_n 0, 1) := by decide +kernel
theorem dX4_excise_6 : decode cX4_excise 6 = .ok (.getfield 9, 3) := by decide +kernel
theorem dX4_excise_9 : decode cX4_excise 9 = .ok (.invokestatic 153, 3) := by decide +kernel
theorem dX4_excise_12 : decode cX4_excise 12 = .ok (.ireturn, 1) := by decide +kernel
theorem dX4_excise_13 : decode cX4_excise 13 = .ok (.aload_n 0, 1) := by decide +kernel
theorem dX4_excise_14 : decode cX4_excise 14 = .ok (.iload_n 1, 1) := by decide +kernel
theorem dX4_excise_15 : decode cX4_excise 15 = .ok (.invokevirtual 111, 3) := by decide +kernel
theorem dX4_excise_18 : decode cX4_excise 18 = .ok (.ifCond .eq 14, 3) := by decide +kernel
theorem dX4_excise_21 : decode cX4_excise 21 = .ok (.aload_n 0, 1) := by decide +kernel
theorem dX4_excise_22 : decode cX4_excise 22 = .ok (.getfield 9, 3) := by decide +kernel
theorem dX4_excise_25 : decode cX4_excise 25 = .ok (.iload_n 1, 1) := by decide +kernel
theorem dX4_excise_26 : decode cX4_excise 26 = .ok (.invokestatic 150, 3) := by decide +kernel
theorem dX4_excise_29 : decode cX4_excise 29 = .ok (.goto 8, 3) := by decide +kernel
theorem dX4_excise_32 : decode cX4_excise 32 = .ok (.aload_n 0, 1) := by decide +kernel
theorem dX4_excise_33 : decode cX4_excise 33 = .ok (.iconst (-1), 1) := by decide +kernel
theorem dX4_excise_34 : decode cX4_excise 34 = .ok (.invokevirtual 36, 3) := by decide +kernel
theorem dX4_excise_37 : decode cX4_excise 37 = .ok (.ireturn, 1) := by decide +kernel
theorem dX4_exciseIn_0 : decode cX4_exciseIn 0 = .ok (.iload_n 1, 1) := by decide +kernel
theorem dX4_exciseIn_1 : decode cX4_exciseIn 1 = .ok (.invokestatic 128, 3) := by decide +kernel
theorem dX4_exciseIn_4 : decode cX4_exciseIn 4 = .ok (.istore_n 2, 1) := by decide +kernel
theorem dX4_exciseIn_5 : decode cX4_exciseIn 5 = .ok (.iload_n 2, 1) := by decide +kernel
theorem dX4_exciseIn_6 : decode cX4_exciseIn 6 = .ok (.ifCond .eq 9, 3) := by decide +kernel
theorem dX4_exciseIn_9 : decode cX4_exciseIn 9 = .ok (.aload_n 0, 1) := by decide +kernel
theorem dX4_exciseIn_10 : decode cX4_exciseIn 10 = .ok (.iload_n 2, 1) := by decide +kernel
theorem dX4_exciseIn_11 : decode cX4_exciseIn 11 = .ok (.invokevirtual 36, 3) := by decide +kernel
theorem dX4_exciseIn_14 : decode cX4_exciseIn 14 = .ok (.ireturn, 1) := by decide +kernel
theorem dX4_exciseIn_15 : decode cX4_exciseIn 15 = .ok (.aload_n 0, 1) := by decide +kernel
theorem dX4_exciseIn_16 : decode cX4_exciseIn 16 = .ok (.getfield 9, 3) := by decide +kernel
theorem dX4_exciseIn_19 : decode cX4_exciseIn 19 = .ok (.aload_n 0, 1) := by decide +kernel
theorem dX4_exciseIn_20 : decode cX4_exciseIn 20 = .ok (.getfield 13, 3) := by decide +kernel
theorem dX4_exciseIn_23 : decode cX4_exciseIn 23 = .ok (.invokestatic 78, 3) := by decide +kernel
theorem dX4_exciseIn_26 : decode cX4_exciseIn 26 = .ok (.iconst 0, 1) := by decide +kernel
theorem dX4_exciseIn_27 : decode cX4_exciseIn 27 = .ok (.istore_n 3, 1) := by decide +kernel
theorem dX4_exciseIn_28 : decode cX4_exciseIn 28 = .ok (.iconst 0, 1) := by decide +kernel
theorem dX4_exciseIn_29 : decode cX4_exciseIn 29 = .ok (.istore 4, 2) := by decide +kernel
theorem dX4_exciseIn_31 : decode cX4_exciseIn 31 = .ok (.iload 4, 2) := by decide +kernel
theorem dX4_exciseIn_33 : decode cX4_exciseIn 33 = .ok (.iload_n 1, 1) := by decide +kernel
theorem dX4_exciseIn_34 : decode cX4_exciseIn 34 = .ok (.if_icmp .ge 27, 3) := by decide +kernel
theorem dX4_exciseIn_37 : decode cX4_exciseIn 37 = .ok (.aload_n 0, 1) := by decide +kernel
theorem dX4_exciseIn_38 : decode cX4_exciseIn 38 = .ok (.aload_n 0, 1) := by decide +kernel
theorem dX4_exciseIn_39 : decode cX4_exciseIn 39 = .ok (.getfield 13, 3) := by decide +kernel
theorem dX4_exciseIn_42 : decode cX4_exciseIn 42 = .ok (.invokevirtual 74, 3) := by decide +kernel
theorem dX4_exciseIn_45 : decode cX4_exciseIn 45 = .ok (.iload_n 3, 1) := by decide +kernel
theorem dX4_exciseIn_46 : decode cX4_exciseIn 46 = .ok (.aload_n 0, 1) := by decide +kernel
theorem dX4_exciseIn_47 : decode cX4_exciseIn 47 = .ok (.getfield 13, 3) := by decide +kernel
theorem dX4_exciseIn_50 : decode cX4_exciseIn 50 = .ok (.invokestatic 153, 3) := by decide +kernel
theorem dX4_exciseIn_53 : decode cX4_exciseIn 53 = .ok (.iadd, 1) := by decide +kernel
theorem dX4_exciseIn_54 : decode cX4_exciseIn 54 = .ok (.istore_n 3, 1) := by decide +kernel
theorem dX4_exciseIn_55 : decode cX4_exciseIn 55 = .ok (.iinc 4 1, 3) := by decide +kernel
theorem dX4_exciseIn_58 : decode cX4_exciseIn 58 = .ok (.goto (-27), 3) := by decide +kernel
theorem dX4_exciseIn_61 : decode cX4_exciseIn 61 = .ok (.iload_n 3, 1) := by decide +kernel
theorem dX4_exciseIn_62 : decode cX4_exciseIn 62 = .ok (.ireturn, 1) := by decide +kernel
theorem dX4_low_0 : decode cX4_low 0 = .ok (.aload_n 0, 1) := by decide +kernel
theorem dX4_low_1 : decode cX4_low 1 = .ok (.iload_n 1, 1) := by decide +kernel
theorem dX4_low_2 : decode cX4_low 2 = .ok (.invokevirtual 111, 3) := by decide +kernel
theorem dX4_low_5 : decode cX4_low 5 = .ok (.ifCond .ne 9, 3) := by decide +kernel
theorem dX4_low_8 : decode cX4_low 8 = .ok (.aload_n 0, 1) := by decide +kernel
theorem dX4_low_9 : decode cX4_low 9 = .ok (.iconst (-1), 1) := by decide +kernel
theorem dX4_low_10 : decode cX4_low 10 = .ok (.invokevirtual 36, 3) := by decide +kernel
theorem dX4_low_13 : decode cX4_low 13 = .ok (.ireturn, 1) := by decide +kernel
theorem dX4_low_14 : decode cX4_low 14 = .ok (.iload_n 2, 1) := by decide +kernel
theorem dX4_low_15 : decode cX4_low 15 = .ok (.ifCond .ge 10, 3) := by decide +kernel
theorem dX4_low_18 : decode cX4_low 18 = .ok (.aload_n 0, 1) := by decide +kernel
theorem dX4_low_19 : decode cX4_low 19 = .ok (.bipush (-4), 2) := by decide +kernel
theorem dX4_low_21 : decode cX4_low 21 = .ok (.invokevirtual 36, 3) := by decide +kernel
theorem dX4_low_24 : decode cX4_low 24 = .ok (.ireturn, 1) := by decide +kernel
theorem dX4_low_25 : decode cX4_low 25 = .ok (.iload_n 2, 1) := by decide +kernel
theorem dX4_low_26 : decode cX4_low 26 = .ok (.sipush 400, 3) := by decide +kernel
theorem dX4_low_29 : decode cX4_low 29 = .ok (.if_icmp .le 10, 3) := by decide +kernel
theorem dX4_low_32 : decode cX4_low 32 = .ok (.aload_n 0, 1) := by decide +kernel
theorem dX4_low_33 : decode cX4_low 33 = .ok (.bipush (-6), 2) := by decide +kernel
theorem dX4_low_35 : decode cX4_low 35 = .ok (.invokevirtual 36, 3) := by decide +kernel
theorem dX4_low_38 : decode cX4_low 38 = .ok (.ireturn, 1) := by decide +kernel
theorem dX4_low_39 : decode cX4_low 39 = .ok (.aload_n 0, 1) := by decide +kernel
theorem dX4_low_40 : decode cX4_low 40 = .ok (.getfield 9, 3) := by decide +kernel
theorem dX4_low_43 : decode cX4_low 43 = .ok (.aload_n 0, 1) := by decide +kernel
theorem dX4_low_44 : decode cX4_low 44 = .ok (.getfield 13, 3) := by decide +kernel
theorem dX4_low_47 : decode cX4_low 47 = .ok (.invokestatic 78, 3) := by decide +kernel
theorem dX4_low_50 : decode cX4_low 50 = .ok (.iconst 0, 1) := by decide +kernel
theorem dX4_low_51 : decode cX4_low 51 = .ok (.istore_n 3, 1) := by decide +kernel
theorem dX4_low_52 : decode cX4_low 52 = .ok (.iload_n 3, 1) := by decide +kernel
theorem dX4_low_53 : decode cX4_low 53 = .ok (.sipush 200, 3) := by decide +kernel
theorem dX4_low_56 : decode cX4_low 56 = .ok (.if_icmp .gt 33, 3) := by decide +kernel
theorem dX4_low_59 : decode cX4_low 59 = .ok (.aload_n 0, 1) := by decide +kernel
theorem dX4_low_60 : decode cX4_low 60 = .ok (.getfield 13, 3) := by decide +kernel
theorem dX4_low_63 : decode cX4_low 63 = .ok (.iload_n 1, 1) := by decide +kernel
theorem dX4_low_64 : decode cX4_low 64 = .ok (.iconst 2, 1) := by decide +kernel
theorem dX4_low_65 : decode cX4_low 65 = .ok (.invokestatic 44, 3) := by decide +kernel
theorem dX4_low_68 : decode cX4_low 68 = .ok (.iaload, 1) := by decide +kernel
theorem dX4_low_69 : decode cX4_low 69 = .ok (.iload_n 2, 1) := by decide +kernel
theorem dX4_low_70 : decode cX4_low 70 = .ok (.if_icmp .gt 5, 3) := by decide +kernel
theorem dX4_low_73 : decode cX4_low 73 = .ok (.iload_n 3, 1) := by decide +kernel
theorem dX4_low_74 : decode cX4_low 74 = .ok (.ireturn, 1) := by decide +kernel
theorem dX4_low_75 : decode cX4_low 75 = .ok (.aload_n 0, 1) := by decide +kernel
theorem dX4_low_76 : decode cX4_low 76 = .ok (.aload_n 0, 1) := by decide +kernel
theorem dX4_low_77 : decode cX4_low 77 = .ok (.getfield 13, 3) := by decide +kernel
theorem dX4_low_80 : decode cX4_low 80 = .ok (.invokevirtual 74, 3) := by decide +kernel
theorem dX4_low_83 : decode cX4_low 83 = .ok (.iinc 3 1, 3) := by decide +kernel
theorem dX4_low_86 : decode cX4_low 86 = .ok (.goto (-34), 3) := by decide +kernel
theorem dX4_low_89 : decode cX4_low 89 = .ok (.bipush (-9), 2) := by decide +kernel
theorem dX4_low_91 : decode cX4_low 91 = .ok (.ireturn, 1) := by decide +kernel
theorem dX4_turns_0 : decode cX4_turns 0 = .ok (.aload_n 0, 1) := by decide +kernel
theorem dX4_turns_1 : decode cX4_turns 1 = .ok (.getfield 9, 3) := by decide +kernel
theorem dX4_turns_4 : decode cX4_turns 4 = .ok (.aload_n 0, 1) := by decide +kernel
theorem dX4_turns_5 : decode cX4_turns 5 = .ok (.getfield 13, 3) := by decide +kernel
theorem dX4_turns_8 : decode cX4_turns 8 = .ok (.invokestatic 78, 3) := by decide +kernel
theorem dX4_turns_11 : decode cX4_turns 11 = .ok (.iconst 1, 1) := by decide +kernel
theorem dX4_turns_12 : decode cX4_turns 12 = .ok (.istore_n 1, 1) := by decide +kernel
theorem dX4_turns_13 : decode cX4_turns 13 = .ok (.iload_n 1, 1) := by decide +kernel
theorem dX4_turns_14 : decode cX4_turns 14 = .ok (.sipush 200, 3) := by decide +kernel
theorem dX4_turns_17 : decode cX4_turns 17 = .ok (.if_icmp .gt 30, 3) := by decide +kernel
theorem dX4_turns_20 : decode cX4_turns 20 = .ok (.aload_n 0, 1) := by decide +kernel
theorem dX4_turns_21 : decode cX4_turns 21 = .ok (.aload_n 0, 1) := by decide +kernel
theorem dX4_turns_22 : decode cX4_turns 22 = .ok (.getfield 13, 3) := by decide +kernel
theorem dX4_turns_25 : decode cX4_turns 25 = .ok (.invokevirtual 74, 3) := by decide +kernel
theorem dX4_turns_28 : decode cX4_turns 28 = .ok (.aload_n 0, 1) := by decide +kernel
theorem dX4_turns_29 : decode cX4_turns 29 = .ok (.getfield 55, 3) := by decide +kernel
theorem dX4_turns_32 : decode cX4_turns 32 = .ok (.aload_n 0, 1) := by decide +kernel
theorem dX4_turns_33 : decode cX4_turns 33 = .ok (.getfield 51, 3) := by decide +kernel
theorem dX4_turns_36 : decode cX4_turns 36 = .ok (.if_icmp .le 5, 3) := by decide +kernel
theorem dX4_turns_39 : decode cX4_turns 39 = .ok (.iload_n 1, 1) := by decide +kernel
theorem dX4_turns_40 : decode cX4_turns 40 = .ok (.ireturn, 1) := by decide +kernel
theorem dX4_turns_41 : decode cX4_turns 41 = .ok (.iinc 1 1, 3) := by decide +kernel
theorem dX4_turns_44 : decode cX4_turns 44 = .ok (.goto (-31), 3) := by decide +kernel
theorem dX4_turns_47 : decode cX4_turns 47 = .ok (.bipush (-9), 2) := by decide +kernel
theorem dX4_turns_49 : decode cX4_turns 49 = .ok (.ireturn, 1) := by decide +kernel
theorem dX4_hum_0 : decode cX4_hum 0 = .ok (.aload_n 0, 1) := by decide +kernel
theorem dX4_hum_1 : decode cX4_hum 1 = .ok (.iload_n 1, 1) := by decide +kernel
theorem dX4_hum_2 : decode cX4_hum 2 = .ok (.invokevirtual 111, 3) := by decide +kernel
theorem dX4_hum_5 : decode cX4_hum 5 = .ok (.ifCond .ne 9, 3) := by decide +kernel
theorem dX4_hum_8 : decode cX4_hum 8 = .ok (.aload_n 0, 1) := by decide +kernel
theorem dX4_hum_9 : decode cX4_hum 9 = .ok (.iconst (-1), 1) := by decide +kernel
theorem dX4_hum_10 : decode cX4_hum 10 = .ok (.invokevirtual 36, 3) := by decide +kernel
theorem dX4_hum_13 : decode cX4_hum 13 = .ok (.ireturn, 1) := by decide +kernel
theorem dX4_hum_14 : decode cX4_hum 14 = .ok (.aload_n 0, 1) := by decide +kernel
theorem dX4_hum_15 : decode cX4_hum 15 = .ok (.getfield 9, 3) := by decide +kernel
theorem dX4_hum_18 : decode cX4_hum 18 = .ok (.aload_n 0, 1) := by decide +kernel
theorem dX4_hum_19 : decode cX4_hum 19 = .ok (.getfield 13, 3) := by decide +kernel
theorem dX4_hum_22 : decode cX4_hum 22 = .ok (.invokestatic 78, 3) := by decide +kernel
theorem dX4_hum_25 : decode cX4_hum 25 = .ok (.iconst 0, 1) := by decide +kernel
theorem dX4_hum_26 : decode cX4_hum 26 = .ok (.istore_n 2, 1) := by decide +kernel
theorem dX4_hum_27 : decode cX4_hum 27 = .ok (.iload_n 2, 1) := by decide +kernel
theorem dX4_hum_28 : decode cX4_hum 28 = .ok (.sipush 200, 3) := by decide +kernel
theorem dX4_hum_31 : decode cX4_hum 31 = .ok (.if_icmp .gt 55, 3) := by decide +kernel
theorem dX4_hum_34 : decode cX4_hum 34 = .ok (.aload_n 0, 1) := by decide +kernel
theorem dX4_hum_35 : decode cX4_hum 35 = .ok (.getfield 13, 3) := by decide +kernel
theorem dX4_hum_38 : decode cX4_hum 38 = .ok (.iload_n 1, 1) := by decide +kernel
theorem dX4_hum_39 : decode cX4_hum 39 = .ok (.iconst 5, 1) := by decide +kernel
theorem dX4_hum_40 : decode cX4_hum 40 = .ok (.invokestatic 44, 3) := by decide +kernel
theorem dX4_hum_43 : decode cX4_hum 43 = .ok (.iaload, 1) := by decide +kernel
theorem dX4_hum_44 : decode cX4_hum 44 = .ok (.ifCond .le 28, 3) := by decide +kernel
theorem dX4_hum_47 : decode cX4_hum 47 = .ok (.aload_n 0, 1) := by decide +kernel
theorem dX4_hum_48 : decode cX4_hum 48 = .ok (.getfield 13, 3) := by decide +kernel
theorem dX4_hum_51 : decode cX4_hum 51 = .ok (.iload_n 1, 1) := by decide +kernel
theorem dX4_hum_52 : decode cX4_hum 52 = .ok (.iconst 5, 1) := by decide +kernel
theorem dX4_hum_53 : decode cX4_hum 53 = .ok (.invokestatic 44, 3) := by decide +kernel
theorem dX4_hum_56 : decode cX4_hum 56 = .ok (.iaload, 1) := by decide +kernel
theorem dX4_hum_57 : decode cX4_hum 57 = .ok (.aload_n 0, 1) := by decide +kernel
theorem dX4_hum_58 : decode cX4_hum 58 = .ok (.getfield 13, 3) := by decide +kernel
theorem dX4_hum_61 : decode cX4_hum 61 = .ok (.iload_n 1, 1) := by decide +kernel
theorem dX4_hum_62 : decode cX4_hum 62 = .ok (.iconst 2, 1) := by decide +kernel
theorem dX4_hum_63 : decode cX4_hum 63 = .ok (.invokestatic 44, 3) := by decide +kernel
theorem dX4_hum_66 : decode cX4_hum 66 = .ok (.iaload, 1) := by decide +kernel
theorem dX4_hum_67 : decode cX4_hum 67 = .ok (.if_icmp .lt 5, 3) := by decide +kernel
theorem dX4_hum_70 : decode cX4_hum 70 = .ok (.iload_n 2, 1) := by decide +kernel
theorem dX4_hum_71 : decode cX4_hum 71 = .ok (.ireturn, 1) := by decide +kernel
theorem dX4_hum_72 : decode cX4_hum 72 = .ok (.aload_n 0, 1) := by decide +kernel
theorem dX4_hum_73 : decode cX4_hum 73 = .ok (.aload_n 0, 1) := by decide +kernel
theorem dX4_hum_74 : decode cX4_hum 74 = .ok (.getfield 13, 3) := by decide +kernel
theorem dX4_hum_77 : decode cX4_hum 77 = .ok (.invokevirtual 74, 3) := by decide +kernel
theorem dX4_hum_80 : decode cX4_hum 80 = .ok (.iinc 2 1, 3) := by decide +kernel
theorem dX4_hum_83 : decode cX4_hum 83 = .ok (.goto (-56), 3) := by decide +kernel
theorem dX4_hum_86 : decode cX4_hum 86 = .ok (.bipush (-9), 2) := by decide +kernel
theorem dX4_hum_88 : decode cX4_hum 88 = .ok (.ireturn, 1) := by decide +kernel
theorem dX4_pourFor_0 : decode cX4_pourFor 0 = .ok (.aload_n 0, 1) := by decide +kernel
theorem dX4_pourFor_1 : decode cX4_pourFor 1 = .ok (.iload_n 1, 1) := by decide +kernel
theorem dX4_pourFor_2 : decode cX4_pourFor 2 = .ok (.invokevirtual 111, 3) := by decide +kernel
theorem dX4_pourFor_5 : decode cX4_pourFor 5 = .ok (.ifCond .ne 9, 3) := by decide +kernel
theorem dX4_pourFor_8 : decode cX4_pourFor 8 = .ok (.aload_n 0, 1) := by decide +kernel
theorem dX4_pourFor_9 : decode cX4_pourFor 9 = .ok (.iconst (-1), 1) := by decide +kernel
theorem dX4_pourFor_10 : decode cX4_pourFor 10 = .ok (.invokevirtual 36, 3) := by decide +kernel
theorem dX4_pourFor_13 : decode cX4_pourFor 13 = .ok (.ireturn, 1) := by decide +kernel
theorem dX4_pourFor_14 : decode cX4_pourFor 14 = .ok (.iload_n 2, 1) := by decide +kernel
theorem dX4_pourFor_15 : decode cX4_pourFor 15 = .ok (.ifCond .ge 10, 3) := by decide +kernel
theorem dX4_pourFor_18 : decode cX4_pourFor 18 = .ok (.aload_n 0, 1) := by decide +kernel
theorem dX4_pourFor_19 : decode cX4_pourFor 19 = .ok (.bipush (-4), 2) := by decide +kernel
theorem dX4_pourFor_21 : decode cX4_pourFor 21 = .ok (.invokevirtual 36, 3) := by decide +kernel
theorem dX4_pourFor_24 : decode cX4_pourFor 24 = .ok (.ireturn, 1) := by decide +kernel
theorem dX4_pourFor_25 : decode cX4_pourFor 25 = .ok (.iload_n 2, 1) := by decide +kernel
theorem dX4_pourFor_26 : decode cX4_pourFor 26 = .ok (.bipush 99, 2) := by decide +kernel
theorem dX4_pourFor_28 : decode cX4_pourFor 28 = .ok (.if_icmp .le 10, 3) := by decide +kernel
theorem dX4_pourFor_31 : decode cX4_pourFor 31 = .ok (.aload_n 0, 1) := by decide +kernel
theorem dX4_pourFor_32 : decode cX4_pourFor 32 = .ok (.bipush (-6), 2) := by decide +kernel
theorem dX4_pourFor_34 : decode cX4_pourFor 34 = .ok (.invokevirtual 36, 3) := by decide +kernel
theorem dX4_pourFor_37 : decode cX4_pourFor 37 = .ok (.ireturn, 1) := by decide +kernel
theorem dX4_pourFor_38 : decode cX4_pourFor 38 = .ok (.iconst 1, 1) := by decide +kernel
theorem dX4_pourFor_39 : decode cX4_pourFor 39 = .ok (.istore_n 3, 1) := by decide +kernel
theorem dX4_pourFor_40 : decode cX4_pourFor 40 = .ok (.iload_n 3, 1) := by decide +kernel
theorem dX4_pourFor_41 : decode cX4_pourFor 41 = .ok (.sipush 400, 3) := by decide +kernel
theorem dX4_pourFor_44 : decode cX4_pourFor 44 = .ok (.if_icmp .gt 67, 3) := by decide +kernel
theorem dX4_pourFor_47 : decode cX4_pourFor 47 = .ok (.iconst 0, 1) := by decide +kernel
theorem dX4_pourFor_48 : decode cX4_pourFor 48 = .ok (.istore 4, 2) := by decide +kernel
theorem dX4_pourFor_50 : decode cX4_pourFor 50 = .ok (.iload 4, 2) := by decide +kernel
theorem dX4_pourFor_52 : decode cX4_pourFor 52 = .ok (.aload_n 0, 1) := by decide +kernel
theorem dX4_pourFor_53 : decode cX4_pourFor 53 = .ok (.getfield 9, 3) := by decide +kernel
theorem dX4_pourFor_56 : decode cX4_pourFor 56 = .ok (.iconst 0, 1) := by decide +kernel
theorem dX4_pourFor_57 : decode cX4_pourFor 57 = .ok (.iaload, 1) := by decide +kernel
theorem dX4_pourFor_58 : decode cX4_pourFor 58 = .ok (.if_icmp .ge 47, 3) := by decide +kernel
theorem dX4_pourFor_61 : decode cX4_pourFor 61 = .ok (.iload 4, 2) := by decide +kernel
theorem dX4_pourFor_63 : decode cX4_pourFor 63 = .ok (.iload_n 1, 1) := by decide +kernel
theorem dX4_pourFor_64 : decode cX4_pourFor 64 = .ok (.if_icmp .eq 35, 3) := by decide +kernel
theorem dX4_pourFor_67 : decode cX4_pourFor 67 = .ok (.aload_n 0, 1) := by decide +kernel
theorem dX4_pourFor_68 : decode cX4_pourFor 68 = .ok (.iload 4, 2) := by decide +kernel
theorem dX4_pourFor_70 : decode cX4_pourFor 70 = .ok (.iload_n 1, 1) := by decide +kernel
theorem dX4_pourFor_71 : decode cX4_pourFor 71 = .ok (.iload_n 3, 1) := by decide +kernel
theorem dX4_pourFor_72 : decode cX4_pourFor 72 = .ok (.invokevirtual 115, 3) := by decide +kernel
theorem dX4_pourFor_75 : decode cX4_pourFor 75 = .ok (.ifCond .eq 24, 3) := by decide +kernel
theorem dX4_pourFor_78 : decode cX4_pourFor 78 = .ok (.aload_n 0, 1) := by decide +kernel
theorem dX4_pourFor_79 : decode cX4_pourFor 79 = .ok (.iload 4, 2) := by decide +kernel
theorem dX4_pourFor_81 : decode cX4_pourFor 81 = .ok (.iload_n 1, 1) := by decide +kernel
theorem dX4_pourFor_82 : decode cX4_pourFor 82 = .ok (.iload_n 3, 1) := by decide +kernel
theorem dX4_pourFor_83 : decode cX4_pourFor 83 = .ok (.invokevirtual 107, 3) := by decide +kernel
theorem dX4_pourFor_86 : decode cX4_pourFor 86 = .ok (.iload_n 2, 1) := by decide +kernel
theorem dX4_pourFor_87 : decode cX4_pourFor 87 = .ok (.if_icmp .ne 12, 3) := by decide +kernel
theorem dX4_pourFor_90 : decode cX4_pourFor 90 = .ok (.sipush 1000, 3) := by decide +kernel
theorem dX4_pourFor_93 : decode cX4_pourFor 93 = .ok (.iload 4, 2) := by decide +kernel
theorem dX4_pourFor_95 : decode cX4_pourFor 95 = .ok (.imul, 1) := by decide +kernel
theorem dX4_pourFor_96 : decode cX4_pourFor 96 = .ok (.iload_n 3, 1) := by decide +kernel
theorem dX4_pourFor_97 : decode cX4_pourFor 97 = .ok (.iadd, 1) := by decide +kernel
theorem dX4_pourFor_98 : decode cX4_pourFor 98 = .ok (.ireturn, 1) := by decide +kernel
theorem dX4_pourFor_99 : decode cX4_pourFor 99 = .ok (.iinc 4 1, 3) := by decide +kernel
theorem dX4_pourFor_102 : decode cX4_pourFor 102 = .ok (.goto (-52), 3) := by decide +kernel
theorem dX4_pourFor_105 : decode cX4_pourFor 105 = .ok (.iinc 3 1, 3) := by decide +kernel
theorem dX4_pourFor_108 : decode cX4_pourFor 108 = .ok (.goto (-68), 3) := by decide +kernel
theorem dX4_pourFor_111 : decode cX4_pourFor 111 = .ok (.bipush (-9), 2) := by decide +kernel
theorem dX4_pourFor_113 : decode cX4_pourFor 113 = .ok (.ireturn, 1) := by decide +kernel
theorem dX4_blend_0 : decode cX4_blend 0 = .ok (.iload_n 1, 1) := by decide +kernel
theorem dX4_blend_1 : decode cX4_blend 1 = .ok (.ifCond .ge 10, 3) := by decide +kernel
theorem dX4_blend_4 : decode cX4_blend 4 = .ok (.aload_n 0, 1) := by decide +kernel
theorem dX4_blend_5 : decode cX4_blend 5 = .ok (.bipush (-4), 2) := by decide +kernel
theorem dX4_blend_7 : decode cX4_blend 7 = .ok (.invokevirtual 36, 3) := by decide +kernel
theorem dX4_blend_10 : decode cX4_blend 10 = .ok (.ireturn, 1) := by decide +kernel
theorem dX4_blend_11 : decode cX4_blend 11 = .ok (.iload_n 1, 1) := by decide +kernel
theorem dX4_blend_12 : decode cX4_blend 12 = .ok (.bipush 99, 2) := by decide +kernel
theorem dX4_blend_14 : decode cX4_blend 14 = .ok (.if_icmp .le 10, 3) := by decide +kernel
theorem dX4_blend_17 : decode cX4_blend 17 = .ok (.aload_n 0, 1) := by decide +kernel
theorem dX4_blend_18 : decode cX4_blend 18 = .ok (.bipush (-6), 2) := by decide +kernel
theorem dX4_blend_20 : decode cX4_blend 20 = .ok (.invokevirtual 36, 3) := by decide +kernel
theorem dX4_blend_23 : decode cX4_blend 23 = .ok (.ireturn, 1) := by decide +kernel
theorem dX4_blend_24 : decode cX4_blend 24 = .ok (.bipush (-9), 2) := by decide +kernel
theorem dX4_blend_26 : decode cX4_blend 26 = .ok (.istore_n 2, 1) := by decide +kernel
theorem dX4_blend_27 : decode cX4_blend 27 = .ok (.ldc 157, 2) := by decide +kernel
theorem dX4_blend_29 : decode cX4_blend 29 = .ok (.istore_n 3, 1) := by decide +kernel
theorem dX4_blend_30 : decode cX4_blend 30 = .ok (.iconst 0, 1) := by decide +kernel
theorem dX4_blend_31 : decode cX4_blend 31 = .ok (.istore 4, 2) := by decide +kernel
theorem dX4_blend_33 : decode cX4_blend 33 = .ok (.iload 4, 2) := by decide +kernel
theorem dX4_blend_35 : decode cX4_blend 35 = .ok (.aload_n 0, 1) := by decide +kernel
theorem dX4_blend_36 : decode cX4_blend 36 = .ok (.getfield 9, 3) := by decide +kernel
theorem dX4_blend_39 : decode cX4_blend 39 = .ok (.iconst 0, 1) := by decide +kernel
theorem dX4_blend_40 : decode cX4_blend 40 = .ok (.iaload, 1) := by decide +kernel
theorem dX4_blend_41 : decode cX4_blend 41 = .ok (.if_icmp .ge 143, 3) := by decide +kernel
theorem dX4_blend_44 : decode cX4_blend 44 = .ok (.iload 4, 2) := by decide +kernel
theorem dX4_blend_46 : decode cX4_blend 46 = .ok (.iconst 1, 1) := by decide +kernel
theorem dX4_blend_47 : decode cX4_blend 47 = .ok (.iadd, 1) := by decide +kernel
theorem dX4_blend_48 : decode cX4_blend 48 = .ok (.istore 5, 2) := by decide +kernel
theorem dX4_blend_50 : decode cX4_blend 50 = .ok (.iload 5, 2) := by decide +kernel
theorem dX4_blend_52 : decode cX4_blend 52 = .ok (.aload_n 0, 1) := by decide +kernel
theorem dX4_blend_53 : decode cX4_blend 53 = .ok (.getfield 9, 3) := by decide +kernel
theorem dX4_blend_56 : decode cX4_blend 56 = .ok (.iconst 0, 1) := by decide +kernel
theorem dX4_blend_57 : decode cX4_blend 57 = .ok (.iaload, 1) := by decide +kernel
theorem dX4_blend_58 : decode cX4_blend 58 = .ok (.if_icmp .ge 120, 3) := by decide +kernel
theorem dX4_blend_61 : decode cX4_blend 61 = .ok (.aload_n 0, 1) := by decide +kernel
theorem dX4_blend_62 : decode cX4_blend 62 = .ok (.getfield 9, 3) := by decide +kernel
theorem dX4_blend_65 : decode cX4_blend 65 = .ok (.iload 4, 2) := by decide +kernel
theorem dX4_blend_67 : decode cX4_blend 67 = .ok (.iconst 2, 1) := by decide +kernel
theorem dX4_blend_68 : decode cX4_blend 68 = .ok (.invokestatic 44, 3) := by decide +kernel
theorem dX4_blend_71 : decode cX4_blend 71 = .ok (.iaload, 1) := by decide +kernel
theorem dX4_blend_72 : decode cX4_blend 72 = .ok (.aload_n 0, 1) := by decide +kernel
theorem dX4_blend_73 : decode cX4_blend 73 = .ok (.getfield 9, 3) := by decide +kernel
theorem dX4_blend_76 : decode cX4_blend 76 = .ok (.iload 5, 2) := by decide +kernel
theorem dX4_blend_78 : decode cX4_blend 78 = .ok (.iconst 2, 1) := by decide +kernel
theorem dX4_blend_79 : decode cX4_blend 79 = .ok (.invokestatic 44, 3) := by decide +kernel
theorem dX4_blend_82 : decode cX4_blend 82 = .ok (.iaload, 1) := by decide +kernel
theorem dX4_blend_83 : decode cX4_blend 83 = .ok (.iadd, 1) := by decide +kernel
theorem dX4_blend_84 : decode cX4_blend 84 = .ok (.istore 6, 2) := by decide +kernel
theorem dX4_blend_86 : decode cX4_blend 86 = .ok (.iload 6, 2) := by decide +kernel
theorem dX4_blend_88 : decode cX4_blend 88 = .ok (.ifCond .ne 6, 3) := by decide +kernel
theorem dX4_blend_91 : decode cX4_blend 91 = .ok (.goto 81, 3) := by decide +kernel
theorem dX4_blend_94 : decode cX4_blend 94 = .ok (.aload_n 0, 1) := by decide +kernel
theorem dX4_blend_95 : decode cX4_blend 95 = .ok (.getfield 9, 3) := by decide +kernel
theorem dX4_blend_98 : decode cX4_blend 98 = .ok (.iload 4, 2) := by decide +kernel
theorem dX4_blend_100 : decode cX4_blend 100 = .ok (.iconst 2, 1) := by decide +kernel
theorem dX4_blend_101 : decode cX4_blend 101 = .ok (.invokestatic 44, 3) := by decide +kernel
theorem dX4_blend_104 : decode cX4_blend 104 = .ok (.iaload, 1) := by decide +kernel
theorem dX4_blend_105 : decode cX4_blend 105 = .ok (.aload_n 0, 1) := by decide +kernel
theorem dX4_blend_106 : decode cX4_blend 106 = .ok (.getfield 9, 3) := by decide +kernel
theorem dX4_blend_109 : decode cX4_blend 109 = .ok (.iload 4, 2) := by decide +kernel
theorem dX4_blend_111 : decode cX4_blend 111 = .ok (.iconst 3, 1) := by decide +kernel
theorem dX4_blend_112 : decode cX4_blend 112 = .ok (.invokestatic 44, 3) := by decide +kernel
theorem dX4_blend_115 : decode cX4_blend 115 = .ok (.iaload, 1) := by decide +kernel
theorem dX4_blend_116 : decode cX4_blend 116 = .ok (.imul, 1) := by decide +kernel
theorem dX4_blend_117 : decode cX4_blend 117 = .ok (.aload_n 0, 1) := by decide +kernel
theorem dX4_blend_118 : decode cX4_blend 118 = .ok (.getfield 9, 3) := by decide +kernel
theorem dX4_blend_121 : decode cX4_blend 121 = .ok (.iload 5, 2) := by decide +kernel
theorem dX4_blend_123 : decode cX4_blend 123 = .ok (.iconst 2, 1) := by decide +kernel
theorem dX4_blend_124 : decode cX4_blend 124 = .ok (.invokestatic 44, 3) := by decide +kernel
theorem dX4_blend_127 : decode cX4_blend 127 = .ok (.iaload, 1) := by decide +kernel
theorem dX4_blend_128 : decode cX4_blend 128 = .ok (.aload_n 0, 1) := by decide +kernel
theorem dX4_blend_129 : decode cX4_blend 129 = .ok (.getfield 9, 3) := by decide +kernel
theorem dX4_blend_132 : decode cX4_blend 132 = .ok (.iload 5, 2) := by decide +kernel
theorem dX4_blend_134 : decode cX4_blend 134 = .ok (.iconst 3, 1) := by decide +kernel
theorem dX4_blend_135 : decode cX4_blend 135 = .ok (.invokestatic 44, 3) := by decide +kernel
theorem dX4_blend_138 : decode cX4_blend 138 = .ok (.iaload, 1) := by decide +kernel
theorem dX4_blend_139 : decode cX4_blend 139 = .ok (.imul, 1) := by decide +kernel
theorem dX4_blend_140 : decode cX4_blend 140 = .ok (.iadd, 1) := by decide +kernel
theorem dX4_blend_141 : decode cX4_blend 141 = .ok (.iload 6, 2) := by decide +kernel
theorem dX4_blend_143 : decode cX4_blend 143 = .ok (.idiv, 1) := by decide +kernel
theorem dX4_blend_144 : decode cX4_blend 144 = .ok (.iload_n 1, 1) := by decide +kernel
theorem dX4_blend_145 : decode cX4_blend 145 = .ok (.isub, 1) := by decide +kernel
theorem dX4_blend_146 : decode cX4_blend 146 = .ok (.invokestatic 158, 3) := by decide +kernel
theorem dX4_blend_149 : decode cX4_blend 149 = .ok (.istore 7, 2) := by decide +kernel
theorem dX4_blend_151 : decode cX4_blend 151 = .ok (.iload 7, 2) := by decide +kernel
theorem dX4_blend_153 : decode cX4_blend 153 = .ok (.iload_n 3, 1) := by decide +kernel
theorem dX4_blend_154 : decode cX4_blend 154 = .ok (.if_icmp .lt 6, 3) := by decide +kernel
theorem dX4_blend_157 : decode cX4_blend 157 = .ok (.goto 15, 3) := by decide +kernel
theorem dX4_blend_160 : decode cX4_blend 160 = .ok (.bipush 10, 2) := by decide +kernel
theorem dX4_blend_162 : decode cX4_blend 162 = .ok (.iload 4, 2) := by decide +kernel
theorem dX4_blend_164 : decode cX4_blend 164 = .ok (.imul, 1) := by decide +kernel
theorem dX4_blend_165 : decode cX4_blend 165 = .ok (.iload 5, 2) := by decide +kernel
theorem dX4_blend_167 : decode cX4_blend 167 = .ok (.iadd, 1) := by decide +kernel
theorem dX4_blend_168 : decode cX4_blend 168 = .ok (.istore_n 2, 1) := by decide +kernel
theorem dX4_blend_169 : decode cX4_blend 169 = .ok (.iload 7, 2) := by decide +kernel
theorem dX4_blend_171 : decode cX4_blend 171 = .ok (.istore_n 3, 1) := by decide +kernel
theorem dX4_blend_172 : decode cX4_blend 172 = .ok (.iinc 5 1, 3) := by decide +kernel
theorem dX4_blend_175 : decode cX4_blend 175 = .ok (.goto (-125), 3) := by decide +kernel
theorem dX4_blend_178 : decode cX4_blend 178 = .ok (.iinc 4 1, 3) := by decide +kernel
theorem dX4_blend_181 : decode cX4_blend 181 = .ok (.goto (-148), 3) := by decide +kernel
theorem dX4_blend_184 : decode cX4_blend 184 = .ok (.iload_n 2, 1) := by decide +kernel
theorem dX4_blend_185 : decode cX4_blend 185 = .ok (.ireturn, 1) := by decide +kernel
theorem dX4_spread_0 : decode cX4_spread 0 = .ok (.bipush (-9), 2) := by decide +kernel
theorem dX4_spread_2 : decode cX4_spread 2 = .ok (.istore_n 1, 1) := by decide +kernel
theorem dX4_spread_3 : decode cX4_spread 3 = .ok (.ldc 157, 2) := by decide +kernel
theorem dX4_spread_5 : decode cX4_spread 5 = .ok (.istore_n 2, 1) := by decide +kernel
theorem dX4_spread_6 : decode cX4_spread 6 = .ok (.iconst 0, 1) := by decide +kernel
theorem dX4_spread_7 : decode cX4_spread 7 = .ok (.istore_n 3, 1) := by decide +kernel
theorem dX4_spread_8 : decode cX4_spread 8 = .ok (.iload_n 3, 1) := by decide +kernel
theorem dX4_spread_9 : decode cX4_spread 9 = .ok (.aload_n 0, 1) := by decide +kernel
theorem dX4_spread_10 : decode cX4_spread 10 = .ok (.getfield 9, 3) := by decide +kernel
theorem dX4_spread_13 : decode cX4_spread 13 = .ok (.iconst 0, 1) := by decide +kernel
theorem dX4_spread_14 : decode cX4_spread 14 = .ok (.iaload, 1) := by decide +kernel
theorem dX4_spread_15 : decode cX4_spread 15 = .ok (.if_icmp .ge 57, 3) := by decide +kernel
theorem dX4_spread_18 : decode cX4_spread 18 = .ok (.aload_n 0, 1) := by decide +kernel
theorem dX4_spread_19 : decode cX4_spread 19 = .ok (.getfield 9, 3) := by decide +kernel
theorem dX4_spread_22 : decode cX4_spread 22 = .ok (.iload_n 3, 1) := by decide +kernel
theorem dX4_spread_23 : decode cX4_spread 23 = .ok (.iconst 2, 1) := by decide +kernel
theorem dX4_spread_24 : decode cX4_spread 24 = .ok (.invokestatic 44, 3) := by decide +kernel
theorem dX4_spread_27 : decode cX4_spread 27 = .ok (.iaload, 1) := by decide +kernel
theorem dX4_spread_28 : decode cX4_spread 28 = .ok (.ifCond .ne 6, 3) := by decide +kernel
theorem dX4_spread_31 : decode cX4_spread 31 = .ok (.goto 35, 3) := by decide +kernel
theorem dX4_spread_34 : decode cX4_spread 34 = .ok (.aload_n 0, 1) := by decide +kernel
theorem dX4_spread_35 : decode cX4_spread 35 = .ok (.getfield 9, 3) := by decide +kernel
theorem dX4_spread_38 : decode cX4_spread 38 = .ok (.iload_n 3, 1) := by decide +kernel
theorem dX4_spread_39 : decode cX4_spread 39 = .ok (.iconst 3, 1) := by decide +kernel
theorem dX4_spread_40 : decode cX4_spread 40 = .ok (.invokestatic 44, 3) := by decide +kernel
theorem dX4_spread_43 : decode cX4_spread 43 = .ok (.iaload, 1) := by decide +kernel
theorem dX4_spread_44 : decode cX4_spread 44 = .ok (.istore 4, 2) := by decide +kernel
theorem dX4_spread_46 : decode cX4_spread 46 = .ok (.iload 4, 2) := by decide +kernel
theorem dX4_spread_48 : decode cX4_spread 48 = .ok (.iload_n 1, 1) := by decide +kernel
theorem dX4_spread_49 : decode cX4_spread 49 = .ok (.if_icmp .le 8, 3) := by decide +kernel
theorem dX4_spread_52 : decode cX4_spread 52 = .ok (.iload 4, 2) := by decide +kernel
theorem dX4_spread_54 : decode cX4_spread 54 = .ok (.goto 4, 3) := by decide +kernel
theorem dX4_spread_57 : decode cX4_spread 57 = .ok (.iload_n 1, 1) := by decide +kernel
theorem dX4_spread_58 : decode cX4_spread 58 = .ok (.istore_n 1, 1) := by decide +kernel
theorem dX4_spread_59 : decode cX4_spread 59 = .ok (.iload_n 2, 1) := by decide +kernel
theorem dX4_spread_60 : decode cX4_spread 60 = .ok (.iload 4, 2) := by decide +kernel
theorem dX4_spread_62 : decode cX4_spread 62 = .ok (.invokestatic 48, 3) := by decide +kernel
theorem dX4_spread_65 : decode cX4_spread 65 = .ok (.istore_n 2, 1) := by decide +kernel
theorem dX4_spread_66 : decode cX4_spread 66 = .ok (.iinc 3 1, 3) := by decide +kernel
theorem dX4_spread_69 : decode cX4_spread 69 = .ok (.goto (-61), 3) := by decide +kernel
theorem dX4_spread_72 : decode cX4_spread 72 = .ok (.iload_n 1, 1) := by decide +kernel
theorem dX4_spread_73 : decode cX4_spread 73 = .ok (.ifCond .ge 8, 3) := by decide +kernel
theorem dX4_spread_76 : decode cX4_spread 76 = .ok (.bipush (-9), 2) := by decide +kernel
theorem dX4_spread_78 : decode cX4_spread 78 = .ok (.goto 6, 3) := by decide +kernel
theorem dX4_spread_81 : decode cX4_spread 81 = .ok (.iload_n 1, 1) := by decide +kernel
theorem dX4_spread_82 : decode cX4_spread 82 = .ok (.iload_n 2, 1) := by decide +kernel
theorem dX4_spread_83 : decode cX4_spread 83 = .ok (.isub, 1) := by decide +kernel
theorem dX4_spread_84 : decode cX4_spread 84 = .ok (.ireturn, 1) := by decide +kernel
theorem dX4_worthOf_0 : decode cX4_worthOf 0 = .ok (.aload_n 0, 1) := by decide +kernel
theorem dX4_worthOf_1 : decode cX4_worthOf 1 = .ok (.iload_n 1, 1) := by decide +kernel
theorem dX4_worthOf_2 : decode cX4_worthOf 2 = .ok (.iconst 2, 1) := by decide +kernel
theorem dX4_worthOf_3 : decode cX4_worthOf 3 = .ok (.invokestatic 44, 3) := by decide +kernel
theorem dX4_worthOf_6 : decode cX4_worthOf 6 = .ok (.iaload, 1) := by decide +kernel
theorem dX4_worthOf_7 : decode cX4_worthOf 7 = .ok (.aload_n 0, 1) := by decide +kernel
theorem dX4_worthOf_8 : decode cX4_worthOf 8 = .ok (.iload_n 1, 1) := by decide +kernel
theorem dX4_worthOf_9 : decode cX4_worthOf 9 = .ok (.iconst 3, 1) := by decide +kernel
theorem dX4_worthOf_10 : decode cX4_worthOf 10 = .ok (.invokestatic 44, 3) := by decide +kernel
theorem dX4_worthOf_13 : decode cX4_worthOf 13 = .ok (.iaload, 1) := by decide +kernel
theorem dX4_worthOf_14 : decode cX4_worthOf 14 = .ok (.imul, 1) := by decide +kernel
theorem dX4_worthOf_15 : decode cX4_worthOf 15 = .ok (.ireturn, 1) := by decide +kernel
theorem dX4_layDown_0 : decode cX4_layDown 0 = .ok (.iload_n 1, 1) := by decide +kernel
theorem dX4_layDown_1 : decode cX4_layDown 1 = .ok (.invokestatic 128, 3) := by decide +kernel
theorem dX4_layDown_4 : decode cX4_layDown 4 = .ok (.istore_n 2, 1) := by decide +kernel
theorem dX4_layDown_5 : decode cX4_layDown 5 = .ok (.iload_n 2, 1) := by decide +kernel
theorem dX4_layDown_6 : decode cX4_layDown 6 = .ok (.ifCond .eq 9, 3) := by decide +kernel
theorem dX4_layDown_9 : decode cX4_layDown 9 = .ok (.aload_n 0, 1) := by decide +kernel
theorem dX4_layDown_10 : decode cX4_layDown 10 = .ok (.iload_n 2, 1) := by decide +kernel
theorem dX4_layDown_11 : decode cX4_layDown 11 = .ok (.invokevirtual 36, 3) := by decide +kernel
theorem dX4_layDown_14 : decode cX4_layDown 14 = .ok (.ireturn, 1) := by decide +kernel
theorem dX4_layDown_15 : decode cX4_layDown 15 = .ok (.aload_n 0, 1) := by decide +kernel
theorem dX4_layDown_16 : decode cX4_layDown 16 = .ok (.iload_n 1, 1) := by decide +kernel
theorem dX4_layDown_17 : decode cX4_layDown 17 = .ok (.invokevirtual 131, 3) := by decide +kernel
theorem dX4_layDown_20 : decode cX4_layDown 20 = .ok (.bipush (-9), 2) := by decide +kernel
theorem dX4_layDown_22 : decode cX4_layDown 22 = .ok (.istore_n 3, 1) := by decide +kernel
theorem dX4_layDown_23 : decode cX4_layDown 23 = .ok (.iconst 0, 1) := by decide +kernel
theorem dX4_layDown_24 : decode cX4_layDown 24 = .ok (.istore 4, 2) := by decide +kernel
theorem dX4_layDown_26 : decode cX4_layDown 26 = .ok (.iload 4, 2) := by decide +kernel
theorem dX4_layDown_28 : decode cX4_layDown 28 = .ok (.aload_n 0, 1) := by decide +kernel
theorem dX4_layDown_29 : decode cX4_layDown 29 = .ok (.getfield 9, 3) := by decide +kernel
theorem dX4_layDown_32 : decode cX4_layDown 32 = .ok (.iconst 0, 1) := by decide +kernel
theorem dX4_layDown_33 : decode cX4_layDown 33 = .ok (.iaload, 1) := by decide +kernel
theorem dX4_layDown_34 : decode cX4_layDown 34 = .ok (.if_icmp .ge 36, 3) := by decide +kernel
theorem dX4_layDown_37 : decode cX4_layDown 37 = .ok (.iload_n 3, 1) := by decide +kernel
theorem dX4_layDown_38 : decode cX4_layDown 38 = .ok (.ifCond .lt 23, 3) := by decide +kernel
theorem dX4_layDown_41 : decode cX4_layDown 41 = .ok (.aload_n 0, 1) := by decide +kernel
theorem dX4_layDown_42 : decode cX4_layDown 42 = .ok (.getfield 13, 3) := by decide +kernel
theorem dX4_layDown_45 : decode cX4_layDown 45 = .ok (.iload 4, 2) := by decide +kernel
theorem dX4_layDown_47 : decode cX4_layDown 47 = .ok (.invokestatic 161, 3) := by decide +kernel
theorem dX4_layDown_50 : decode cX4_layDown 50 = .ok (.aload_n 0, 1) := by decide +kernel
theorem dX4_layDown_51 : decode cX4_layDown 51 = .ok (.getfield 13, 3) := by decide +kernel
theorem dX4_layDown_54 : decode cX4_layDown 54 = .ok (.iload_n 3, 1) := by decide +kernel
theorem dX4_layDown_55 : decode cX4_layDown 55 = .ok (.invokestatic 161, 3) := by decide +kernel
theorem dX4_layDown_58 : decode cX4_layDown 58 = .ok (.if_icmp .le 6, 3) := by decide +kernel
theorem dX4_layDown_61 : decode cX4_layDown 61 = .ok (.iload 4, 2) := by decide +kernel
theorem dX4_layDown_63 : decode cX4_layDown 63 = .ok (.istore_n 3, 1) := by decide +kernel
theorem dX4_layDown_64 : decode cX4_layDown 64 = .ok (.iinc 4 1, 3) := by decide +kernel
theorem dX4_layDown_67 : decode cX4_layDown 67 = .ok (.goto (-41), 3) := by decide +kernel
theorem dX4_layDown_70 : decode cX4_layDown 70 = .ok (.iload_n 3, 1) := by decide +kernel
theorem dX4_layDown_71 : decode cX4_layDown 71 = .ok (.ireturn, 1) := by decide +kernel
theorem dX4_sell_0 : decode cX4_sell 0 = .ok (.iload_n 1, 1) := by decide +kernel
theorem dX4_sell_1 : decode cX4_sell 1 = .ok (.invokestatic 128, 3) := by decide +kernel
theorem dX4_sell_4 : decode cX4_sell 4 = .ok (.istore_n 2, 1) := by decide +kernel
theorem dX4_sell_5 : decode cX4_sell 5 = .ok (.iload_n 2, 1) := by decide +kernel
theorem dX4_sell_6 : decode cX4_sell 6 = .ok (.ifCond .eq 9, 3) := by decide +kernel
theorem dX4_sell_9 : decode cX4_sell 9 = .ok (.aload_n 0, 1) := by decide +kernel
theorem dX4_sell_10 : decode cX4_sell 10 = .ok (.iload_n 2, 1) := by decide +kernel
theorem dX4_sell_11 : decode cX4_sell 11 = .ok (.invokevirtual 36, 3) := by decide +kernel
theorem dX4_sell_14 : decode cX4_sell 14 = .ok (.ireturn, 1) := by decide +kernel
theorem dX4_sell_15 : decode cX4_sell 15 = .ok (.aload_n 0, 1) := by decide +kernel
theorem dX4_sell_16 : decode cX4_sell 16 = .ok (.iload_n 1, 1) := by decide +kernel
theorem dX4_sell_17 : decode cX4_sell 17 = .ok (.invokevirtual 131, 3) := by decide +kernel
theorem dX4_sell_20 : decode cX4_sell 20 = .ok (.bipush (-9), 2) := by decide +kernel
theorem dX4_sell_22 : decode cX4_sell 22 = .ok (.istore_n 3, 1) := by decide +kernel
theorem dX4_sell_23 : decode cX4_sell 23 = .ok (.iconst 0, 1) := by decide +kernel
theorem dX4_sell_24 : decode cX4_sell 24 = .ok (.istore 4, 2) := by decide +kernel
theorem dX4_sell_26 : decode cX4_sell 26 = .ok (.iload 4, 2) := by decide +kernel
theorem dX4_sell_28 : decode cX4_sell 28 = .ok (.aload_n 0, 1) := by decide +kernel
theorem dX4_sell_29 : decode cX4_sell 29 = .ok (.getfield 9, 3) := by decide +kernel
theorem dX4_sell_32 : decode cX4_sell 32 = .ok (.iconst 0, 1) := by decide +kernel
theorem dX4_sell_33 : decode cX4_sell 33 = .ok (.iaload, 1) := by decide +kernel
theorem dX4_sell_34 : decode cX4_sell 34 = .ok (.if_icmp .ge 76, 3) := by decide +kernel
theorem dX4_sell_37 : decode cX4_sell 37 = .ok (.aload_n 0, 1) := by decide +kernel
theorem dX4_sell_38 : decode cX4_sell 38 = .ok (.getfield 9, 3) := by decide +kernel
theorem dX4_sell_41 : decode cX4_sell 41 = .ok (.iload 4, 2) := by decide +kernel
theorem dX4_sell_43 : decode cX4_sell 43 = .ok (.iconst 2, 1) := by decide +kernel
theorem dX4_sell_44 : decode cX4_sell 44 = .ok (.invokestatic 44, 3) := by decide +kernel
theorem dX4_sell_47 : decode cX4_sell 47 = .ok (.iaload, 1) := by decide +kernel
theorem dX4_sell_48 : decode cX4_sell 48 = .ok (.istore 5, 2) := by decide +kernel
theorem dX4_sell_50 : decode cX4_sell 50 = .ok (.iload 5, 2) := by decide +kernel
theorem dX4_sell_52 : decode cX4_sell 52 = .ok (.ifCond .ne 6, 3) := by decide +kernel
theorem dX4_sell_55 : decode cX4_sell 55 = .ok (.goto 49, 3) := by decide +kernel
theorem dX4_sell_58 : decode cX4_sell 58 = .ok (.iload_n 3, 1) := by decide +kernel
theorem dX4_sell_59 : decode cX4_sell 59 = .ok (.ifCond .lt 42, 3) := by decide +kernel
theorem dX4_sell_62 : decode cX4_sell 62 = .ok (.aload_n 0, 1) := by decide +kernel
theorem dX4_sell_63 : decode cX4_sell 63 = .ok (.getfield 13, 3) := by decide +kernel
theorem dX4_sell_66 : decode cX4_sell 66 = .ok (.iload 4, 2) := by decide +kernel
theorem dX4_sell_68 : decode cX4_sell 68 = .ok (.invokestatic 161, 3) := by decide +kernel
theorem dX4_sell_71 : decode cX4_sell 71 = .ok (.i2l, 1) := by decide +kernel
theorem dX4_sell_72 : decode cX4_sell 72 = .ok (.aload_n 0, 1) := by decide +kernel
theorem dX4_sell_73 : decode cX4_sell 73 = .ok (.getfield 9, 3) := by decide +kernel
theorem dX4_sell_76 : decode cX4_sell 76 = .ok (.iload_n 3, 1) := by decide +kernel
theorem dX4_sell_77 : decode cX4_sell 77 = .ok (.iconst 2, 1) := by decide +kernel
theorem dX4_sell_78 : decode cX4_sell 78 = .ok (.invokestatic 44, 3) := by decide +kernel
theorem dX4_sell_81 : decode cX4_sell 81 = .ok (.iaload, 1) := by decide +kernel
theorem dX4_sell_82 : decode cX4_sell 82 = .ok (.i2l, 1) := by decide +kernel
theorem dX4_sell_83 : decode cX4_sell 83 = .ok (.lmul, 1) := by decide +kernel
theorem dX4_sell_84 : decode cX4_sell 84 = .ok (.aload_n 0, 1) := by decide +kernel
theorem dX4_sell_85 : decode cX4_sell 85 = .ok (.getfield 13, 3) := by decide +kernel
theorem dX4_sell_88 : decode cX4_sell 88 = .ok (.iload_n 3, 1) := by decide +kernel
theorem dX4_sell_89 : decode cX4_sell 89 = .ok (.invokestatic 161, 3) := by decide +kernel
theorem dX4_sell_92 : decode cX4_sell 92 = .ok (.i2l, 1) := by decide +kernel
theorem dX4_sell_93 : decode cX4_sell 93 = .ok (.iload 5, 2) := by decide +kernel
theorem dX4_sell_95 : decode cX4_sell 95 = .ok (.i2l, 1) := by decide +kernel
theorem dX4_sell_96 : decode cX4_sell 96 = .ok (.lmul, 1) := by decide +kernel
theorem dX4_sell_97 : decode cX4_sell 97 = .ok (.lcmp, 1) := by decide +kernel
theorem dX4_sell_98 : decode cX4_sell 98 = .ok (.ifCond .ge 6, 3) := by decide +kernel
theorem dX4_sell_101 : decode cX4_sell 101 = .ok (.iload 4, 2) := by decide +kernel
theorem dX4_sell_103 : decode cX4_sell 103 = .ok (.istore_n 3, 1) := by decide +kernel
theorem dX4_sell_104 : decode cX4_sell 104 = .ok (.iinc 4 1, 3) := by decide +kernel
theorem dX4_sell_107 : decode cX4_sell 107 = .ok (.goto (-81), 3) := by decide +kernel
theorem dX4_sell_110 : decode cX4_sell 110 = .ok (.iload_n 3, 1) := by decide +kernel
theorem dX4_sell_111 : decode cX4_sell 111 = .ok (.ireturn, 1) := by decide +kernel
theorem dX4_byTreaty_0 : decode cX4_byTreaty 0 = .ok (.aload_n 0, 1) := by decide +kernel
theorem dX4_byTreaty_1 : decode cX4_byTreaty 1 = .ok (.getfield 9, 3) := by decide +kernel
theorem dX4_byTreaty_4 : decode cX4_byTreaty 4 = .ok (.aload_n 0, 1) := by decide +kernel
theorem dX4_byTreaty_5 : decode cX4_byTreaty 5 = .ok (.getfield 13, 3) := by decide +kernel
theorem dX4_byTreaty_8 : decode cX4_byTreaty 8 = .ok (.invokestatic 78, 3) := by decide +kernel
theorem dX4_byTreaty_11 : decode cX4_byTreaty 11 = .ok (.aload_n 0, 1) := by decide +kernel
theorem dX4_byTreaty_12 : decode cX4_byTreaty 12 = .ok (.getfield 13, 3) := by decide +kernel
theorem dX4_byTreaty_15 : decode cX4_byTreaty 15 = .ok (.iconst 3, 1) := by decide +kernel
theorem dX4_byTreaty_16 : decode cX4_byTreaty 16 = .ok (.iload_n 2, 1) := by decide +kernel
theorem dX4_byTreaty_17 : decode cX4_byTreaty 17 = .ok (.ifCond .ne 7, 3) := by decide +kernel
theorem dX4_byTreaty_20 : decode cX4_byTreaty 20 = .ok (.iconst 2, 1) := by decide +kernel
theorem dX4_byTreaty_21 : decode cX4_byTreaty 21 = .ok (.goto 5, 3) := by decide +kernel
theorem dX4_byTreaty_24 : decode cX4_byTreaty 24 = .ok (.bipush 8, 2) := by decide +kernel
theorem dX4_byTreaty_26 : decode cX4_byTreaty 26 = .ok (.iastore, 1) := by decide +kernel
theorem dX4_byTreaty_27 : decode cX4_byTreaty 27 = .ok (.aload_n 0, 1) := by decide +kernel
theorem dX4_byTreaty_28 : decode cX4_byTreaty 28 = .ok (.getfield 13, 3) := by decide +kernel
theorem dX4_byTreaty_31 : decode cX4_byTreaty 31 = .ok (.iconst 2, 1) := by decide +kernel
theorem dX4_byTreaty_32 : decode cX4_byTreaty 32 = .ok (.iload_n 3, 1) := by decide +kernel
theorem dX4_byTreaty_33 : decode cX4_byTreaty 33 = .ok (.ifCond .ne 12, 3) := by decide +kernel
theorem dX4_byTreaty_36 : decode cX4_byTreaty 36 = .ok (.aload_n 0, 1) := by decide +kernel
theorem dX4_byTreaty_37 : decode cX4_byTreaty 37 = .ok (.getfield 9, 3) := by decide +kernel
theorem dX4_byTreaty_40 : decode cX4_byTreaty 40 = .ok (.iconst 2, 1) := by decide +kernel
theorem dX4_byTreaty_41 : decode cX4_byTreaty 41 = .ok (.iaload, 1) := by decide +kernel
theorem dX4_byTreaty_42 : decode cX4_byTreaty 42 = .ok (.goto 11, 3) := by decide +kernel
theorem dX4_byTreaty_45 : decode cX4_byTreaty 45 = .ok (.aload_n 0, 1) := by decide +kernel
theorem dX4_byTreaty_46 : decode cX4_byTreaty 46 = .ok (.getfield 9, 3) := by decide +kernel
theorem dX4_byTreaty_49 : decode cX4_byTreaty 49 = .ok (.iconst 2, 1) := by decide +kernel
theorem dX4_byTreaty_50 : decode cX4_byTreaty 50 = .ok (.iaload, 1) := by decide +kernel
theorem dX4_byTreaty_51 : decode cX4_byTreaty 51 = .ok (.iconst 2, 1) := by decide +kernel
theorem dX4_byTreaty_52 : decode cX4_byTreaty 52 = .ok (.idiv, 1) := by decide +kernel
theorem dX4_byTreaty_53 : decode cX4_byTreaty 53 = .ok (.iastore, 1) := by decide +kernel
theorem dX4_byTreaty_54 : decode cX4_byTreaty 54 = .ok (.aload_n 0, 1) := by decide +kernel
theorem dX4_byTreaty_55 : decode cX4_byTreaty 55 = .ok (.aload_n 0, 1) := by decide +kernel
theorem dX4_byTreaty_56 : decode cX4_byTreaty 56 = .ok (.getfield 13, 3) := by decide +kernel
theorem dX4_byTreaty_59 : decode cX4_byTreaty 59 = .ok (.iload_n 1, 1) := by decide +kernel
theorem dX4_byTreaty_60 : decode cX4_byTreaty 60 = .ok (.invokevirtual 82, 3) := by decide +kernel
theorem dX4_byTreaty_63 : decode cX4_byTreaty 63 = .ok (.aload_n 0, 1) := by decide +kernel
theorem dX4_byTreaty_64 : decode cX4_byTreaty 64 = .ok (.getfield 13, 3) := by decide +kernel
theorem dX4_byTreaty_67 : decode cX4_byTreaty 67 = .ok (.iload 4, 2) := by decide +kernel
theorem dX4_byTreaty_69 : decode cX4_byTreaty 69 = .ok (.invokestatic 135, 3) := by decide +kernel
theorem dX4_byTreaty_72 : decode cX4_byTreaty 72 = .ok (.ireturn, 1) := by decide +kernel
theorem dX4_treaty_0 : decode cX4_treaty 0 = .ok (.iload_n 1, 1) := by decide +kernel
theorem dX4_treaty_1 : decode cX4_treaty 1 = .ok (.invokestatic 128, 3) := by decide +kernel
theorem dX4_treaty_4 : decode cX4_treaty 4 = .ok (.istore_n 2, 1) := by decide +kernel
theorem dX4_treaty_5 : decode cX4_treaty 5 = .ok (.iload_n 2, 1) := by decide +kernel
theorem dX4_treaty_6 : decode cX4_treaty 6 = .ok (.ifCond .eq 9, 3) := by decide +kernel
theorem dX4_treaty_9 : decode cX4_treaty 9 = .ok (.aload_n 0, 1) := by decide +kernel
theorem dX4_treaty_10 : decode cX4_treaty 10 = .ok (.iload_n 2, 1) := by decide +kernel
theorem dX4_treaty_11 : decode cX4_treaty 11 = .ok (.invokevirtual 36, 3) := by decide +kernel
theorem dX4_treaty_14 : decode cX4_treaty 14 = .ok (.ireturn, 1) := by decide +kernel
theorem dX4_treaty_15 : decode cX4_treaty 15 = .ok (.iconst 0, 1) := by decide +kernel
theorem dX4_treaty_16 : decode cX4_treaty 16 = .ok (.istore_n 3, 1) := by decide +kernel
theorem dX4_treaty_17 : decode cX4_treaty 17 = .ok (.iload_n 3, 1) := by decide +kernel
theorem dX4_treaty_18 : decode cX4_treaty 18 = .ok (.iconst 4, 1) := by decide +kernel
theorem dX4_treaty_19 : decode cX4_treaty 19 = .ok (.if_icmp .ge 90, 3) := by decide +kernel
theorem dX4_treaty_22 : decode cX4_treaty 22 = .ok (.iload_n 3, 1) := by decide +kernel
theorem dX4_treaty_23 : decode cX4_treaty 23 = .ok (.iconst 2, 1) := by decide +kernel
theorem dX4_treaty_24 : decode cX4_treaty 24 = .ok (.idiv, 1) := by decide +kernel
theorem dX4_treaty_25 : decode cX4_treaty 25 = .ok (.istore 4, 2) := by decide +kernel
theorem dX4_treaty_27 : decode cX4_treaty 27 = .ok (.iload_n 3, 1) := by decide +kernel
theorem dX4_treaty_28 : decode cX4_treaty 28 = .ok (.iconst 2, 1) := by decide +kernel
theorem dX4_treaty_29 : decode cX4_treaty 29 = .ok (.irem, 1) := by decide +kernel
theorem dX4_treaty_30 : decode cX4_treaty 30 = .ok (.istore 5, 2) := by decide +kernel
theorem dX4_treaty_32 : decode cX4_treaty 32 = .ok (.aload_n 0, 1) := by decide +kernel
theorem dX4_treaty_33 : decode cX4_treaty 33 = .ok (.iload_n 1, 1) := by decide +kernel
theorem dX4_treaty_34 : decode cX4_treaty 34 = .ok (.iload 4, 2) := by decide +kernel
theorem dX4_treaty_36 : decode cX4_treaty 36 = .ok (.iload 5, 2) := by decide +kernel
theorem dX4_treaty_38 : decode cX4_treaty 38 = .ok (.iconst 2, 1) := by decide +kernel
theorem dX4_treaty_39 : decode cX4_treaty 39 = .ok (.invokevirtual 164, 3) := by decide +kernel
theorem dX4_treaty_42 : decode cX4_treaty 42 = .ok (.aload_n 0, 1) := by decide +kernel
theorem dX4_treaty_43 : decode cX4_treaty 43 = .ok (.iload_n 1, 1) := by decide +kernel
theorem dX4_treaty_44 : decode cX4_treaty 44 = .ok (.iconst 1, 1) := by decide +kernel
theorem dX4_treaty_45 : decode cX4_treaty 45 = .ok (.iload 4, 2) := by decide +kernel
theorem dX4_treaty_47 : decode cX4_treaty 47 = .ok (.isub, 1) := by decide +kernel
theorem dX4_treaty_48 : decode cX4_treaty 48 = .ok (.iload 5, 2) := by decide +kernel
theorem dX4_treaty_50 : decode cX4_treaty 50 = .ok (.iconst 2, 1) := by decide +kernel
theorem dX4_treaty_51 : decode cX4_treaty 51 = .ok (.invokevirtual 164, 3) := by decide +kernel
theorem dX4_treaty_54 : decode cX4_treaty 54 = .ok (.if_icmp .lt 7, 3) := by decide +kernel
theorem dX4_treaty_57 : decode cX4_treaty 57 = .ok (.iconst 1, 1) := by decide +kernel
theorem dX4_treaty_58 : decode cX4_treaty 58 = .ok (.goto 4, 3) := by decide +kernel
theorem dX4_treaty_61 : decode cX4_treaty 61 = .ok (.iconst 0, 1) := by decide +kernel
theorem dX4_treaty_62 : decode cX4_treaty 62 = .ok (.istore 6, 2) := by decide +kernel
theorem dX4_treaty_64 : decode cX4_treaty 64 = .ok (.iload 6, 2) := by decide +kernel
theorem dX4_treaty_66 : decode cX4_treaty 66 = .ok (.ifCond .eq 37, 3) := by decide +kernel
theorem dX4_treaty_69 : decode cX4_treaty 69 = .ok (.aload_n 0, 1) := by decide +kernel
theorem dX4_treaty_70 : decode cX4_treaty 70 = .ok (.iload_n 1, 1) := by decide +kernel
theorem dX4_treaty_71 : decode cX4_treaty 71 = .ok (.iload 4, 2) := by decide +kernel
theorem dX4_treaty_73 : decode cX4_treaty 73 = .ok (.iload 5, 2) := by decide +kernel
theorem dX4_treaty_75 : decode cX4_treaty 75 = .ok (.iconst 5, 1) := by decide +kernel
theorem dX4_treaty_76 : decode cX4_treaty 76 = .ok (.invokevirtual 164, 3) := by decide +kernel
theorem dX4_treaty_79 : decode cX4_treaty 79 = .ok (.aload_n 0, 1) := by decide +kernel
theorem dX4_treaty_80 : decode cX4_treaty 80 = .ok (.iload_n 1, 1) := by decide +kernel
theorem dX4_treaty_81 : decode cX4_treaty 81 = .ok (.iload 4, 2) := by decide +kernel
theorem dX4_treaty_83 : decode cX4_treaty 83 = .ok (.iconst 1, 1) := by decide +kernel
theorem dX4_treaty_84 : decode cX4_treaty 84 = .ok (.iload 5, 2) := by decide +kernel
theorem dX4_treaty_86 : decode cX4_treaty 86 = .ok (.isub, 1) := by decide +kernel
theorem dX4_treaty_87 : decode cX4_treaty 87 = .ok (.iconst 5, 1) := by decide +kernel
theorem dX4_treaty_88 : decode cX4_treaty 88 = .ok (.invokevirtual 164, 3) := by decide +kernel
theorem dX4_treaty_91 : decode cX4_treaty 91 = .ok (.if_icmp .lt 12, 3) := by decide +kernel
theorem dX4_treaty_94 : decode cX4_treaty 94 = .ok (.bipush 10, 2) := by decide +kernel
theorem dX4_treaty_96 : decode cX4_treaty 96 = .ok (.iload 4, 2) := by decide +kernel
theorem dX4_treaty_98 : decode cX4_treaty 98 = .ok (.imul, 1) := by decide +kernel
theorem dX4_treaty_99 : decode cX4_treaty 99 = .ok (.iload 5, 2) := by decide +kernel
theorem dX4_treaty_101 : decode cX4_treaty 101 = .ok (.iadd, 1) := by decide +kernel
theorem dX4_treaty_102 : decode cX4_treaty 102 = .ok (.ireturn, 1) := by decide +kernel
theorem dX4_treaty_103 : decode cX4_treaty 103 = .ok (.iinc 3 1, 3) := by decide +kernel
theorem dX4_treaty_106 : decode cX4_treaty 106 = .ok (.goto (-89), 3) := by decide +kernel
theorem dX4_treaty_109 : decode cX4_treaty 109 = .ok (.bipush (-9), 2) := by decide +kernel
theorem dX4_treaty_111 : decode cX4_treaty 111 = .ok (.ireturn, 1) := by decide +kernel
theorem dX4_bestSet_0 : decode cX4_bestSet 0 = .ok (.iload_n 1, 1) := by decide +kernel
theorem dX4_bestSet_1 : decode cX4_bestSet 1 = .ok (.invokestatic 128, 3) := by decide +kernel
theorem dX4_bestSet_4 : decode cX4_bestSet 4 = .ok (.istore_n 3, 1) := by decide +kernel
theorem dX4_bestSet_5 : decode cX4_bestSet 5 = .ok (.iload_n 3, 1) := by decide +kernel
theorem dX4_bestSet_6 : decode cX4_bestSet 6 = .ok (.ifCond .ne 15, 3) := by decide +kernel
theorem dX4_bestSet_9 : decode cX4_bestSet 9 = .ok (.iload_n 2, 1) := by decide +kernel
theorem dX4_bestSet_10 : decode cX4_bestSet 10 = .ok (.iconst 0, 1) := by decide +kernel
theorem dX4_bestSet_11 : decode cX4_bestSet 11 = .ok (.iconst 1, 1) := by decide +kernel
theorem dX4_bestSet_12 : decode cX4_bestSet 12 = .ok (.invokestatic 40, 3) := by decide +kernel
theorem dX4_bestSet_15 : decode cX4_bestSet 15 = .ok (.ifCond .ne 6, 3) := by decide +kernel
theorem dX4_bestSet_18 : decode cX4_bestSet 18 = .ok (.bipush (-2), 2) := by decide +kernel
theorem dX4_bestSet_20 : decode cX4_bestSet 20 = .ok (.istore_n 3, 1) := by decide +kernel
theorem dX4_bestSet_21 : decode cX4_bestSet 21 = .ok (.iload_n 3, 1) := by decide +kernel
theorem dX4_bestSet_22 : decode cX4_bestSet 22 = .ok (.ifCond .eq 9, 3) := by decide +kernel
theorem dX4_bestSet_25 : decode cX4_bestSet 25 = .ok (.aload_n 0, 1) := by decide +kernel
theorem dX4_bestSet_26 : decode cX4_bestSet 26 = .ok (.iload_n 3, 1) := by decide +kernel
theorem dX4_bestSet_27 : decode cX4_bestSet 27 = .ok (.invokevirtual 36, 3) := by decide +kernel
theorem dX4_bestSet_30 : decode cX4_bestSet 30 = .ok (.ireturn, 1) := by decide +kernel
theorem dX4_bestSet_31 : decode cX4_bestSet 31 = .ok (.iload_n 2, 1) := by decide +kernel
theorem dX4_bestSet_32 : decode cX4_bestSet 32 = .ok (.istore 4, 2) := by decide +kernel
theorem dX4_bestSet_34 : decode cX4_bestSet 34 = .ok (.ldc2_w 168, 3) := by decide +kernel
theorem dX4_bestSet_37 : decode cX4_bestSet 37 = .ok (.lstore 5, 2) := by decide +kernel
theorem dX4_bestSet_39 : decode cX4_bestSet 39 = .ok (.lconst 1, 1) := by decide +kernel
theorem dX4_bestSet_40 : decode cX4_bestSet 40 = .ok (.lstore 7, 2) := by decide +kernel
theorem dX4_bestSet_42 : decode cX4_bestSet 42 = .ok (.iload_n 2, 1) := by decide +kernel
theorem dX4_bestSet_43 : decode cX4_bestSet 43 = .ok (.istore 9, 2) := by decide +kernel
theorem dX4_bestSet_45 : decode cX4_bestSet 45 = .ok (.iload 9, 2) := by decide +kernel
theorem dX4_bestSet_47 : decode cX4_bestSet 47 = .ok (.iload_n 2, 1) := by decide +kernel
theorem dX4_bestSet_48 : decode cX4_bestSet 48 = .ok (.ifCond .ne 8, 3) := by decide +kernel
theorem dX4_bestSet_51 : decode cX4_bestSet 51 = .ok (.bipush 40, 2) := by decide +kernel
theorem dX4_bestSet_53 : decode cX4_bestSet 53 = .ok (.goto 5, 3) := by decide +kernel
theorem dX4_bestSet_56 : decode cX4_bestSet 56 = .ok (.bipush 9, 2) := by decide +kernel
theorem dX4_bestSet_58 : decode cX4_bestSet 58 = .ok (.if_icmp .gt 103, 3) := by decide +kernel
theorem dX4_bestSet_61 : decode cX4_bestSet 61 = .ok (.aload_n 0, 1) := by decide +kernel
theorem dX4_bestSet_62 : decode cX4_bestSet 62 = .ok (.getfield 9, 3) := by decide +kernel
theorem dX4_bestSet_65 : decode cX4_bestSet 65 = .ok (.aload_n 0, 1) := by decide +kernel
theorem dX4_bestSet_66 : decode cX4_bestSet 66 = .ok (.getfield 13, 3) := by decide +kernel
theorem dX4_bestSet_69 : decode cX4_bestSet 69 = .ok (.invokestatic 78, 3) := by decide +kernel
theorem dX4_bestSet_72 : decode cX4_bestSet 72 = .ok (.aload_n 0, 1) := by decide +kernel
theorem dX4_bestSet_73 : decode cX4_bestSet 73 = .ok (.getfield 13, 3) := by decide +kernel
theorem dX4_bestSet_76 : decode cX4_bestSet 76 = .ok (.iconst 2, 1) := by decide +kernel
theorem dX4_bestSet_77 : decode cX4_bestSet 77 = .ok (.iload_n 2, 1) := by decide +kernel
theorem dX4_bestSet_78 : decode cX4_bestSet 78 = .ok (.iadd, 1) := by decide +kernel
theorem dX4_bestSet_79 : decode cX4_bestSet 79 = .ok (.iload 9, 2) := by decide +kernel
theorem dX4_bestSet_81 : decode cX4_bestSet 81 = .ok (.iastore, 1) := by decide +kernel
theorem dX4_bestSet_82 : decode cX4_bestSet 82 = .ok (.aload_n 0, 1) := by decide +kernel
theorem dX4_bestSet_83 : decode cX4_bestSet 83 = .ok (.aload_n 0, 1) := by decide +kernel
theorem dX4_bestSet_84 : decode cX4_bestSet 84 = .ok (.getfield 13, 3) := by decide +kernel
theorem dX4_bestSet_87 : decode cX4_bestSet 87 = .ok (.iload_n 1, 1) := by decide +kernel
theorem dX4_bestSet_88 : decode cX4_bestSet 88 = .ok (.invokevirtual 82, 3) := by decide +kernel
theorem dX4_bestSet_91 : decode cX4_bestSet 91 = .ok (.aload_n 0, 1) := by decide +kernel
theorem dX4_bestSet_92 : decode cX4_bestSet 92 = .ok (.getfield 13, 3) := by decide +kernel
theorem dX4_bestSet_95 : decode cX4_bestSet 95 = .ok (.iconst 5, 1) := by decide +kernel
theorem dX4_bestSet_96 : decode cX4_bestSet 96 = .ok (.invokestatic 135, 3) := by decide +kernel
theorem dX4_bestSet_99 : decode cX4_bestSet 99 = .ok (.i2l, 1) := by decide +kernel
theorem dX4_bestSet_100 : decode cX4_bestSet 100 = .ok (.lstore 10, 2) := by decide +kernel
theorem dX4_bestSet_102 : decode cX4_bestSet 102 = .ok (.lload 10, 2) := by decide +kernel
theorem dX4_bestSet_104 : decode cX4_bestSet 104 = .ok (.aload_n 0, 1) := by decide +kernel
theorem dX4_bestSet_105 : decode cX4_bestSet 105 = .ok (.getfield 13, 3) := by decide +kernel
theorem dX4_bestSet_108 : decode cX4_bestSet 108 = .ok (.iconst 2, 1) := by decide +kernel
theorem dX4_bestSet_109 : decode cX4_bestSet 109 = .ok (.invokestatic 135, 3) := by decide +kernel
theorem dX4_bestSet_112 : decode cX4_bestSet 112 = .ok (.i2l, 1) := by decide +kernel
theorem dX4_bestSet_113 : decode cX4_bestSet 113 = .ok (.ladd, 1) := by decide +kernel
theorem dX4_bestSet_114 : decode cX4_bestSet 114 = .ok (.lstore 12, 2) := by decide +kernel
theorem dX4_bestSet_116 : decode cX4_bestSet 116 = .ok (.lload 12, 2) := by decide +kernel
theorem dX4_bestSet_118 : decode cX4_bestSet 118 = .ok (.lconst 0, 1) := by decide +kernel
theorem dX4_bestSet_119 : decode cX4_bestSet 119 = .ok (.lcmp, 1) := by decide +kernel
theorem dX4_bestSet_120 : decode cX4_bestSet 120 = .ok (.ifCond .ne 6, 3) := by decide +kernel
theorem dX4_bestSet_123 : decode cX4_bestSet 123 = .ok (.lconst 1, 1) := by decide +kernel
theorem dX4_bestSet_124 : decode cX4_bestSet 124 = .ok (.lstore 12, 2) := by decide +kernel
theorem dX4_bestSet_126 : decode cX4_bestSet 126 = .ok (.lload 10, 2) := by decide +kernel
theorem dX4_bestSet_128 : decode cX4_bestSet 128 = .ok (.lload 7, 2) := by decide +kernel
theorem dX4_bestSet_130 : decode cX4_bestSet 130 = .ok (.lmul, 1) := by decide +kernel
theorem dX4_bestSet_131 : decode cX4_bestSet 131 = .ok (.lload 5, 2) := by decide +kernel
theorem dX4_bestSet_133 : decode cX4_bestSet 133 = .ok (.lload 12, 2) := by decide +kernel
theorem dX4_bestSet_135 : decode cX4_bestSet 135 = .ok (.lmul, 1) := by decide +kernel
theorem dX4_bestSet_136 : decode cX4_bestSet 136 = .ok (.lcmp, 1) := by decide +kernel
theorem dX4_bestSet_137 : decode cX4_bestSet 137 = .ok (.ifCond .gt 6, 3) := by decide +kernel
theorem dX4_bestSet_140 : decode cX4_bestSet 140 = .ok (.goto 15, 3) := by decide +kernel
theorem dX4_bestSet_143 : decode cX4_bestSet 143 = .ok (.iload 9, 2) := by decide +kernel
theorem dX4_bestSet_145 : decode cX4_bestSet 145 = .ok (.istore 4, 2) := by decide +kernel
theorem dX4_bestSet_147 : decode cX4_bestSet 147 = .ok (.lload 10, 2) := by decide +kernel
theorem dX4_bestSet_149 : decode cX4_bestSet 149 = .ok (.lstore 5, 2) := by decide +kernel
theorem dX4_bestSet_151 : decode cX4_bestSet 151 = .ok (.lload 12, 2) := by decide +kernel
theorem dX4_bestSet_153 : decode cX4_bestSet 153 = .ok (.lstore 7, 2) := by decide +kernel
theorem dX4_bestSet_155 : decode cX4_bestSet 155 = .ok (.iinc 9 1, 3) := by decide +kernel
theorem dX4_bestSet_158 : decode cX4_bestSet 158 = .ok (.goto (-113), 3) := by decide +kernel
theorem dX4_bestSet_161 : decode cX4_bestSet 161 = .ok (.iload 4, 2) := by decide +kernel
theorem dX4_bestSet_163 : decode cX4_bestSet 163 = .ok (.ireturn, 1) := by decide +kernel
theorem dX4_iron_0 : decode cX4_iron 0 = .ok (.iload_n 1, 1) := by decide +kernel
theorem dX4_iron_1 : decode cX4_iron 1 = .ok (.invokestatic 128, 3) := by decide +kernel
theorem dX4_iron_4 : decode cX4_iron 4 = .ok (.istore_n 2, 1) := by decide +kernel
theorem dX4_iron_5 : decode cX4_iron 5 = .ok (.iload_n 2, 1) := by decide +kernel
theorem dX4_iron_6 : decode cX4_iron 6 = .ok (.ifCond .eq 9, 3) := by decide +kernel
theorem dX4_iron_9 : decode cX4_iron 9 = .ok (.aload_n 0, 1) := by decide +kernel
theorem dX4_iron_10 : decode cX4_iron 10 = .ok (.iload_n 2, 1) := by decide +kernel
theorem dX4_iron_11 : decode cX4_iron 11 = .ok (.invokevirtual 36, 3) := by decide +kernel
theorem dX4_iron_14 : decode cX4_iron 14 = .ok (.ireturn, 1) := by decide +kernel
theorem dX4_iron_15 : decode cX4_iron 15 = .ok (.aload_n 0, 1) := by decide +kernel
theorem dX4_iron_16 : decode cX4_iron 16 = .ok (.iload_n 1, 1) := by decide +kernel
theorem dX4_iron_17 : decode cX4_iron 17 = .ok (.invokevirtual 131, 3) := by decide +kernel
theorem dX4_iron_20 : decode cX4_iron 20 = .ok (.aload_n 0, 1) := by decide +kernel
theorem dX4_iron_21 : decode cX4_iron 21 = .ok (.getfield 13, 3) := by decide +kernel
theorem dX4_iron_24 : decode cX4_iron 24 = .ok (.iconst 2, 1) := by decide +kernel
theorem dX4_iron_25 : decode cX4_iron 25 = .ok (.invokestatic 135, 3) := by decide +kernel
theorem dX4_iron_28 : decode cX4_iron 28 = .ok (.istore_n 3, 1) := by decide +kernel
theorem dX4_iron_29 : decode cX4_iron 29 = .ok (.bipush (-9), 2) := by decide +kernel
theorem dX4_iron_31 : decode cX4_iron 31 = .ok (.istore 4, 2) := by decide +kernel
theorem dX4_iron_33 : decode cX4_iron 33 = .ok (.iconst 0, 1) := by decide +kernel
theorem dX4_iron_34 : decode cX4_iron 34 = .ok (.istore 5, 2) := by decide +kernel
theorem dX4_iron_36 : decode cX4_iron 36 = .ok (.iload 5, 2) := by decide +kernel
theorem dX4_iron_38 : decode cX4_iron 38 = .ok (.aload_n 0, 1) := by decide +kernel
theorem dX4_iron_39 : decode cX4_iron 39 = .ok (.getfield 9, 3) := by decide +kernel
theorem dX4_iron_42 : decode cX4_iron 42 = .ok (.iconst 0, 1) := by decide +kernel
theorem dX4_iron_43 : decode cX4_iron 43 = .ok (.iaload, 1) := by decide +kernel
theorem dX4_iron_44 : decode cX4_iron 44 = .ok (.if_icmp .ge 67, 3) := by decide +kernel
theorem dX4_iron_47 : decode cX4_iron 47 = .ok (.aload_n 0, 1) := by decide +kernel
theorem dX4_iron_48 : decode cX4_iron 48 = .ok (.getfield 9, 3) := by decide +kernel
theorem dX4_iron_51 : decode cX4_iron 51 = .ok (.aload_n 0, 1) := by decide +kernel
theorem dX4_iron_52 : decode cX4_iron 52 = .ok (.getfield 13, 3) := by decide +kernel
theorem dX4_iron_55 : decode cX4_iron 55 = .ok (.invokestatic 78, 3) := by decide +kernel
theorem dX4_iron_58 : decode cX4_iron 58 = .ok (.aload_n 0, 1) := by decide +kernel
theorem dX4_iron_59 : decode cX4_iron 59 = .ok (.getfield 13, 3) := by decide +kernel
theorem dX4_iron_62 : decode cX4_iron 62 = .ok (.iload 5, 2) := by decide +kernel
theorem dX4_iron_64 : decode cX4_iron 64 = .ok (.iconst 0, 1) := by decide +kernel
theorem dX4_iron_65 : decode cX4_iron 65 = .ok (.invokestatic 44, 3) := by decide +kernel
theorem dX4_iron_68 : decode cX4_iron 68 = .ok (.iconst 3, 1) := by decide +kernel
theorem dX4_iron_69 : decode cX4_iron 69 = .ok (.iastore, 1) := by decide +kernel
theorem dX4_iron_70 : decode cX4_iron 70 = .ok (.aload_n 0, 1) := by decide +kernel
theorem dX4_iron_71 : decode cX4_iron 71 = .ok (.aload_n 0, 1) := by decide +kernel
theorem dX4_iron_72 : decode cX4_iron 72 = .ok (.getfield 13, 3) := by decide +kernel
theorem dX4_iron_75 : decode cX4_iron 75 = .ok (.iload_n 1, 1) := by decide +kernel
theorem dX4_iron_76 : decode cX4_iron 76 = .ok (.invokevirtual 82, 3) := by decide +kernel
theorem dX4_iron_79 : decode cX4_iron 79 = .ok (.aload_n 0, 1) := by decide +kernel
theorem dX4_iron_80 : decode cX4_iron 80 = .ok (.getfield 13, 3) := by decide +kernel
theorem dX4_iron_83 : decode cX4_iron 83 = .ok (.iconst 2, 1) := by decide +kernel
theorem dX4_iron_84 : decode cX4_iron 84 = .ok (.invokestatic 135, 3) := by decide +kernel
theorem dX4_iron_87 : decode cX4_iron 87 = .ok (.istore 6, 2) := by decide +kernel
theorem dX4_iron_89 : decode cX4_iron 89 = .ok (.iload 6, 2) := by decide +kernel
theorem dX4_iron_91 : decode cX4_iron 91 = .ok (.iload_n 3, 1) := by decide +kernel
theorem dX4_iron_92 : decode cX4_iron 92 = .ok (.if_icmp .gt 6, 3) := by decide +kernel
theorem dX4_iron_95 : decode cX4_iron 95 = .ok (.goto 10, 3) := by decide +kernel
theorem dX4_iron_98 : decode cX4_iron 98 = .ok (.iload 5, 2) := by decide +kernel
theorem dX4_iron_100 : decode cX4_iron 100 = .ok (.istore 4, 2) := by decide +kernel
theorem dX4_iron_102 : decode cX4_iron 102 = .ok (.iload 6, 2) := by decide +kernel
theorem dX4_iron_104 : decode cX4_iron 104 = .ok (.istore_n 3, 1) := by decide +kernel
theorem dX4_iron_105 : decode cX4_iron 105 = .ok (.iinc 5 1, 3) := by decide +kernel
theorem dX4_iron_108 : decode cX4_iron 108 = .ok (.goto (-72), 3) := by decide +kernel
theorem dX4_iron_111 : decode cX4_iron 111 = .ok (.iload 4, 2) := by decide +kernel
theorem dX4_iron_113 : decode cX4_iron 113 = .ok (.ireturn, 1) := by decide +kernel
theorem dX4_row_0 : decode cX4_row 0 = .ok (.iload_n 1, 1) := by decide +kernel
theorem dX4_row_1 : decode cX4_row 1 = .ok (.ifCond .ge 10, 3) := by decide +kernel
theorem dX4_row_4 : decode cX4_row 4 = .ok (.aload_n 0, 1) := by decide +kernel
theorem dX4_row_5 : decode cX4_row 5 = .ok (.bipush (-4), 2) := by decide +kernel
theorem dX4_row_7 : decode cX4_row 7 = .ok (.invokevirtual 36, 3) := by decide +kernel
theorem dX4_row_10 : decode cX4_row 10 = .ok (.ireturn, 1) := by decide +kernel
theorem dX4_row_11 : decode cX4_row 11 = .ok (.iload_n 1, 1) := by decide +kernel
theorem dX4_row_12 : decode cX4_row 12 = .ok (.bipush 99, 2) := by decide +kernel
theorem dX4_row_14 : decode cX4_row 14 = .ok (.if_icmp .gt 12, 3) := by decide +kernel
theorem dX4_row_17 : decode cX4_row 17 = .ok (.aload_n 0, 1) := by decide +kernel
theorem dX4_row_18 : decode cX4_row 18 = .ok (.getfield 170, 3) := by decide +kernel
theorem dX4_row_21 : decode cX4_row 21 = .ok (.bipush 12, 2) := by decide +kernel
theorem dX4_row_23 : decode cX4_row 23 = .ok (.if_icmp .ne 10, 3) := by decide +kernel
theorem dX4_row_26 : decode cX4_row 26 = .ok (.aload_n 0, 1) := by decide +kernel
theorem dX4_row_27 : decode cX4_row 27 = .ok (.bipush (-6), 2) := by decide +kernel
theorem dX4_row_29 : decode cX4_row 29 = .ok (.invokevirtual 36, 3) := by decide +kernel
theorem dX4_row_32 : decode cX4_row 32 = .ok (.ireturn, 1) := by decide +kernel
theorem dX4_row_33 : decode cX4_row 33 = .ok (.aload_n 0, 1) := by decide +kernel
theorem dX4_row_34 : decode cX4_row 34 = .ok (.getfield 25, 3) := by decide +kernel
theorem dX4_row_37 : decode cX4_row 37 = .ok (.aload_n 0, 1) := by decide +kernel
theorem dX4_row_38 : decode cX4_row 38 = .ok (.getfield 170, 3) := by decide +kernel
theorem dX4_row_41 : decode cX4_row 41 = .ok (.iload_n 1, 1) := by decide +kernel
theorem dX4_row_42 : decode cX4_row 42 = .ok (.iastore, 1) := by decide +kernel
theorem dX4_row_43 : decode cX4_row 43 = .ok (.aload_n 0, 1) := by decide +kernel
theorem dX4_row_44 : decode cX4_row 44 = .ok (.dup, 1) := by decide +kernel
theorem dX4_row_45 : decode cX4_row 45 = .ok (.getfield 170, 3) := by decide +kernel
theorem dX4_row_48 : decode cX4_row 48 = .ok (.iconst 1, 1) := by decide +kernel
theorem dX4_row_49 : decode cX4_row 49 = .ok (.iadd, 1) := by decide +kernel
theorem dX4_row_50 : decode cX4_row 50 = .ok (.putfield 170, 3) := by decide +kernel
theorem dX4_row_53 : decode cX4_row 53 = .ok (.aload_n 0, 1) := by decide +kernel
theorem dX4_row_54 : decode cX4_row 54 = .ok (.getfield 170, 3) := by decide +kernel
theorem dX4_row_57 : decode cX4_row 57 = .ok (.ireturn, 1) := by decide +kernel
theorem dX4_firstWrong_0 : decode cX4_firstWrong 0 = .ok (.iconst 0, 1) := by decide +kernel
theorem dX4_firstWrong_1 : decode cX4_firstWrong 1 = .ok (.istore_n 3, 1) := by decide +kernel
theorem dX4_firstWrong_2 : decode cX4_firstWrong 2 = .ok (.iload_n 3, 1) := by decide +kernel
theorem dX4_firstWrong_3 : decode cX4_firstWrong 3 = .ok (.iload_n 2, 1) := by decide +kernel
theorem dX4_firstWrong_4 : decode cX4_firstWrong 4 = .ok (.if_icmp .ge 47, 3) := by decide +kernel
theorem dX4_firstWrong_7 : decode cX4_firstWrong 7 = .ok (.iload_n 3, 1) := by decide +kernel
theorem dX4_firstWrong_8 : decode cX4_firstWrong 8 = .ok (.ifCond .le 11, 3) := by decide +kernel
theorem dX4_firstWrong_11 : decode cX4_firstWrong 11 = .ok (.aload_n 0, 1) := by decide +kernel
theorem dX4_firstWrong_12 : decode cX4_firstWrong 12 = .ok (.aload_n 0, 1) := by decide +kernel
theorem dX4_firstWrong_13 : decode cX4_firstWrong 13 = .ok (.getfield 13, 3) := by decide +kernel
theorem dX4_firstWrong_16 : decode cX4_firstWrong 16 = .ok (.invokevirtual 74, 3) := by decide +kernel
theorem dX4_firstWrong_19 : decode cX4_firstWrong 19 = .ok (.bipush 99, 2) := by decide +kernel
theorem dX4_firstWrong_21 : decode cX4_firstWrong 21 = .ok (.aload_n 0, 1) := by decide +kernel
theorem dX4_firstWrong_22 : decode cX4_firstWrong 22 = .ok (.getfield 13, 3) := by decide +kernel
theorem dX4_firstWrong_25 : decode cX4_firstWrong 25 = .ok (.iload_n 1, 1) := by decide +kernel
theorem dX4_firstWrong_26 : decode cX4_firstWrong 26 = .ok (.iconst 2, 1) := by decide +kernel
theorem dX4_firstWrong_27 : decode cX4_firstWrong 27 = .ok (.invokestatic 44, 3) := by decide +kernel
theorem dX4_firstWrong_30 : decode cX4_firstWrong 30 = .ok (.iaload, 1) := by decide +kernel
theorem dX4_firstWrong_31 : decode cX4_firstWrong 31 = .ok (.invokestatic 48, 3) := by decide +kernel
theorem dX4_firstWrong_34 : decode cX4_firstWrong 34 = .ok (.aload_n 0, 1) := by decide +kernel
theorem dX4_firstWrong_35 : decode cX4_firstWrong 35 = .ok (.getfield 25, 3) := by decide +kernel
theorem dX4_firstWrong_38 : decode cX4_firstWrong 38 = .ok (.iload_n 3, 1) := by decide +kernel
theorem dX4_firstWrong_39 : decode cX4_firstWrong 39 = .ok (.iaload, 1) := by decide +kernel
theorem dX4_firstWrong_40 : decode cX4_firstWrong 40 = .ok (.if_icmp .eq 5, 3) := by decide +kernel
theorem dX4_firstWrong_43 : decode cX4_firstWrong 43 = .ok (.iload_n 3, 1) := by decide +kernel
theorem dX4_firstWrong_44 : decode cX4_firstWrong 44 = .ok (.ireturn, 1) := by decide +kernel
theorem dX4_firstWrong_45 : decode cX4_firstWrong 45 = .ok (.iinc 3 1, 3) := by decide +kernel
theorem dX4_firstWrong_48 : decode cX4_firstWrong 48 = .ok (.goto (-46), 3) := by decide +kernel
theorem dX4_firstWrong_51 : decode cX4_firstWrong 51 = .ok (.bipush (-9), 2) := by decide +kernel
theorem dX4_firstWrong_53 : decode cX4_firstWrong 53 = .ok (.ireturn, 1) := by decide +kernel
theorem dX4_which_0 : decode cX4_which 0 = .ok (.aload_n 0, 1) := by decide +kernel
theorem dX4_which_1 : decode cX4_which 1 = .ok (.iload_n 1, 1) := by decide +kernel
theorem dX4_which_2 : decode cX4_which 2 = .ok (.invokevirtual 111, 3) := by decide +kernel
theorem dX4_which_5 : decode cX4_which 5 = .ok (.ifCond .ne 9, 3) := by decide +kernel
theorem dX4_which_8 : decode cX4_which 8 = .ok (.aload_n 0, 1) := by decide +kernel
theorem dX4_which_9 : decode cX4_which 9 = .ok (.iconst (-1), 1) := by decide +kernel
theorem dX4_which_10 : decode cX4_which 10 = .ok (.invokevirtual 36, 3) := by decide +kernel
theorem dX4_which_13 : decode cX4_which 13 = .ok (.ireturn, 1) := by decide +kernel
theorem dX4_which_14 : decode cX4_which 14 = .ok (.iload_n 2, 1) := by decide +kernel
theorem dX4_which_15 : decode cX4_which 15 = .ok (.iconst 0, 1) := by decide +kernel
theorem dX4_which_16 : decode cX4_which 16 = .ok (.iconst 1, 1) := by decide +kernel
theorem dX4_which_17 : decode cX4_which 17 = .ok (.invokestatic 40, 3) := by decide +kernel
theorem dX4_which_20 : decode cX4_which 20 = .ok (.ifCond .ne 10, 3) := by decide +kernel
theorem dX4_which_23 : decode cX4_which 23 = .ok (.aload_n 0, 1) := by decide +kernel
theorem dX4_which_24 : decode cX4_which 24 = .ok (.bipush (-2), 2) := by decide +kernel
theorem dX4_which_26 : decode cX4_which 26 = .ok (.invokevirtual 36, 3) := by decide +kernel
theorem dX4_which_29 : decode cX4_which 29 = .ok (.ireturn, 1) := by decide +kernel
theorem dX4_which_30 : decode cX4_which 30 = .ok (.iconst 0, 1) := by decide +kernel
theorem dX4_which_31 : decode cX4_which 31 = .ok (.istore_n 3, 1) := by decide +kernel
theorem dX4_which_32 : decode cX4_which 32 = .ok (.iconst 0, 1) := by decide +kernel
theorem dX4_which_33 : decode cX4_which 33 = .ok (.istore 4, 2) := by decide +kernel
theorem dX4_which_35 : decode cX4_which 35 = .ok (.iload 4, 2) := by decide +kernel
theorem dX4_which_37 : decode cX4_which 37 = .ok (.iload_n 2, 1) := by decide +kernel
theorem dX4_which_38 : decode cX4_which 38 = .ok (.ifCond .ne 8, 3) := by decide +kernel
theorem dX4_which_41 : decode cX4_which 41 = .ok (.bipush 6, 2) := by decide +kernel
theorem dX4_which_43 : decode cX4_which 43 = .ok (.goto 5, 3) := by decide +kernel
theorem dX4_which_46 : decode cX4_which 46 = .ok (.bipush 41, 2) := by decide +kernel
theorem dX4_which_48 : decode cX4_which 48 = .ok (.if_icmp .ge 74, 3) := by decide +kernel
theorem dX4_which_51 : decode cX4_which 51 = .ok (.aload_n 0, 1) := by decide +kernel
theorem dX4_which_52 : decode cX4_which 52 = .ok (.getfield 9, 3) := by decide +kernel
theorem dX4_which_55 : decode cX4_which 55 = .ok (.aload_n 0, 1) := by decide +kernel
theorem dX4_which_56 : decode cX4_which 56 = .ok (.getfield 13, 3) := by decide +kernel
theorem dX4_which_59 : decode cX4_which 59 = .ok (.invokestatic 78, 3) := by decide +kernel
theorem dX4_which_62 : decode cX4_which 62 = .ok (.iload_n 2, 1) := by decide +kernel
theorem dX4_which_63 : decode cX4_which 63 = .ok (.ifCond .ne 18, 3) := by decide +kernel
theorem dX4_which_66 : decode cX4_which 66 = .ok (.aload_n 0, 1) := by decide +kernel
theorem dX4_which_67 : decode cX4_which 67 = .ok (.getfield 13, 3) := by decide +kernel
theorem dX4_which_70 : decode cX4_which 70 = .ok (.iload_n 1, 1) := by decide +kernel
theorem dX4_which_71 : decode cX4_which 71 = .ok (.iconst 0, 1) := by decide +kernel
theorem dX4_which_72 : decode cX4_which 72 = .ok (.invokestatic 44, 3) := by decide +kernel
theorem dX4_which_75 : decode cX4_which 75 = .ok (.iload 4, 2) := by decide +kernel
theorem dX4_which_77 : decode cX4_which 77 = .ok (.iastore, 1) := by decide +kernel
theorem dX4_which_78 : decode cX4_which 78 = .ok (.goto 11, 3) := by decide +kernel
theorem dX4_which_81 : decode cX4_which 81 = .ok (.aload_n 0, 1) := by decide +kernel
theorem dX4_which_82 : decode cX4_which 82 = .ok (.getfield 13, 3) := by decide +kernel
theorem dX4_which_85 : decode cX4_which 85 = .ok (.iconst 2, 1) := by decide +kernel
theorem dX4_which_86 : decode cX4_which 86 = .ok (.iload 4, 2) := by decide +kernel
theorem dX4_which_88 : decode cX4_which 88 = .ok (.iastore, 1) := by decide +kernel
theorem dX4_which_89 : decode cX4_which 89 = .ok (.aload_n 0, 1) := by decide +kernel
theorem dX4_which_90 : decode cX4_which 90 = .ok (.iload_n 1, 1) := by decide +kernel
theorem dX4_which_91 : decode cX4_which 91 = .ok (.aload_n 0, 1) := by decide +kernel
theorem dX4_which_92 : decode cX4_which 92 = .ok (.getfield 170, 3) := by decide +kernel
theorem dX4_which_95 : decode cX4_which 95 = .ok (.invokevirtual 173, 3) := by decide +kernel
theorem dX4_which_98 : decode cX4_which 98 = .ok (.ifCond .ge 18, 3) := by decide +kernel
theorem dX4_which_101 : decode cX4_which 101 = .ok (.iload_n 3, 1) := by decide +kernel
theorem dX4_which_102 : decode cX4_which 102 = .ok (.iload_n 2, 1) := by decide +kernel
theorem dX4_which_103 : decode cX4_which 103 = .ok (.ifCond .ne 10, 3) := by decide +kernel
theorem dX4_which_106 : decode cX4_which 106 = .ok (.iconst 1, 1) := by decide +kernel
theorem dX4_which_107 : decode cX4_which 107 = .ok (.iload 4, 2) := by decide +kernel
theorem dX4_which_109 : decode cX4_which 109 = .ok (.ishl, 1) := by decide +kernel
theorem dX4_which_110 : decode cX4_which 110 = .ok (.goto 4, 3) := by decide +kernel
theorem dX4_which_113 : decode cX4_which 113 = .ok (.iconst 1, 1) := by decide +kernel
theorem dX4_which_114 : decode cX4_which 114 = .ok (.iadd, 1) := by decide +kernel
theorem dX4_which_115 : decode cX4_which 115 = .ok (.istore_n 3, 1) := by decide +kernel
theorem dX4_which_116 : decode cX4_which 116 = .ok (.iinc 4 1, 3) := by decide +kernel
theorem dX4_which_119 : decode cX4_which 119 = .ok (.goto (-84), 3) := by decide +kernel
theorem dX4_which_122 : decode cX4_which 122 = .ok (.iload_n 3, 1) := by decide +kernel
theorem dX4_which_123 : decode cX4_which 123 = .ok (.ireturn, 1) := by decide +kernel
theorem dX4_judge_0 : decode cX4_judge 0 = .ok (.aload_n 0, 1) := by decide +kernel
theorem dX4_judge_1 : decode cX4_judge 1 = .ok (.iload_n 1, 1) := by decide +kernel
theorem dX4_judge_2 : decode cX4_judge 2 = .ok (.invokevirtual 111, 3) := by decide +kernel
theorem dX4_judge_5 : decode cX4_judge 5 = .ok (.ifCond .ne 9, 3) := by decide +kernel
theorem dX4_judge_8 : decode cX4_judge 8 = .ok (.aload_n 0, 1) := by decide +kernel
theorem dX4_judge_9 : decode cX4_judge 9 = .ok (.iconst (-1), 1) := by decide +kernel
theorem dX4_judge_10 : decode cX4_judge 10 = .ok (.invokevirtual 36, 3) := by decide +kernel
theorem dX4_judge_13 : decode cX4_judge 13 = .ok (.ireturn, 1) := by decide +kernel
theorem dX4_judge_14 : decode cX4_judge 14 = .ok (.aload_n 0, 1) := by decide +kernel
theorem dX4_judge_15 : decode cX4_judge 15 = .ok (.getfield 170, 3) := by decide +kernel
theorem dX4_judge_18 : decode cX4_judge 18 = .ok (.istore_n 2, 1) := by decide +kernel
theorem dX4_judge_19 : decode cX4_judge 19 = .ok (.aload_n 0, 1) := by decide +kernel
theorem dX4_judge_20 : decode cX4_judge 20 = .ok (.iconst 0, 1) := by decide +kernel
theorem dX4_judge_21 : decode cX4_judge 21 = .ok (.putfield 170, 3) := by decide +kernel
theorem dX4_judge_24 : decode cX4_judge 24 = .ok (.aload_n 0, 1) := by decide +kernel
theorem dX4_judge_25 : decode cX4_judge 25 = .ok (.getfield 9, 3) := by decide +kernel
theorem dX4_judge_28 : decode cX4_judge 28 = .ok (.aload_n 0, 1) := by decide +kernel
theorem dX4_judge_29 : decode cX4_judge 29 = .ok (.getfield 13, 3) := by decide +kernel
theorem dX4_judge_32 : decode cX4_judge 32 = .ok (.invokestatic 78, 3) := by decide +kernel
theorem dX4_judge_35 : decode cX4_judge 35 = .ok (.aload_n 0, 1) := by decide +kernel
theorem dX4_judge_36 : decode cX4_judge 36 = .ok (.iload_n 1, 1) := by decide +kernel
theorem dX4_judge_37 : decode cX4_judge 37 = .ok (.iload_n 2, 1) := by decide +kernel
theorem dX4_judge_38 : decode cX4_judge 38 = .ok (.invokevirtual 173, 3) := by decide +kernel
theorem dX4_judge_41 : decode cX4_judge 41 = .ok (.ireturn, 1) := by decide +kernel
theorem dX4_chance_0 : decode cX4_chance 0 = .ok (.aload_n 0, 1) := by decide +kernel
theorem dX4_chance_1 : decode cX4_chance 1 = .ok (.iload_n 1, 1) := by decide +kernel
theorem dX4_chance_2 : decode cX4_chance 2 = .ok (.invokevirtual 111, 3) := by decide +kernel
theorem dX4_chance_5 : decode cX4_chance 5 = .ok (.ifCond .ne 9, 3) := by decide +kernel
theorem dX4_chance_8 : decode cX4_chance 8 = .ok (.aload_n 0, 1) := by decide +kernel
theorem dX4_chance_9 : decode cX4_chance 9 = .ok (.iconst (-1), 1) := by decide +kernel
theorem dX4_chance_10 : decode cX4_chance 10 = .ok (.invokevirtual 142, 3) := by decide +kernel
theorem dX4_chance_13 : decode cX4_chance 13 = .ok (.lreturn, 1) := by decide +kernel
theorem dX4_chance_14 : decode cX4_chance 14 = .ok (.iload_n 2, 1) := by decide +kernel
theorem dX4_chance_15 : decode cX4_chance 15 = .ok (.ifCond .lt 13, 3) := by decide +kernel
theorem dX4_chance_18 : decode cX4_chance 18 = .ok (.iload_n 3, 1) := by decide +kernel
theorem dX4_chance_19 : decode cX4_chance 19 = .ok (.ifCond .lt 9, 3) := by decide +kernel
theorem dX4_chance_22 : decode cX4_chance 22 = .ok (.iload 4, 2) := by decide +kernel
theorem dX4_chance_24 : decode cX4_chance 24 = .ok (.iconst 2, 1) := by decide +kernel
theorem dX4_chance_25 : decode cX4_chance 25 = .ok (.if_icmp .ge 10, 3) := by decide +kernel
theorem dX4_chance_28 : decode cX4_chance 28 = .ok (.aload_n 0, 1) := by decide +kernel
theorem dX4_chance_29 : decode cX4_chance 29 = .ok (.bipush (-4), 2) := by decide +kernel
theorem dX4_chance_31 : decode cX4_chance 31 = .ok (.invokevirtual 142, 3) := by decide +kernel
theorem dX4_chance_34 : decode cX4_chance 34 = .ok (.lreturn, 1) := by decide +kernel
theorem dX4_chance_35 : decode cX4_chance 35 = .ok (.iload_n 2, 1) := by decide +kernel
theorem dX4_chance_36 : decode cX4_chance 36 = .ok (.sipush 400, 3) := by decide +kernel
theorem dX4_chance_39 : decode cX4_chance 39 = .ok (.if_icmp .gt 16, 3) := by decide +kernel
theorem dX4_chance_42 : decode cX4_chance 42 = .ok (.iload_n 3, 1) := by decide +kernel
theorem dX4_chance_43 : decode cX4_chance 43 = .ok (.bipush 8, 2) := by decide +kernel
theorem dX4_chance_45 : decode cX4_chance 45 = .ok (.if_icmp .gt 10, 3) := by decide +kernel
theorem dX4_chance_48 : decode cX4_chance 48 = .ok (.iload 4, 2) := by decide +kernel
theorem dX4_chance_50 : decode cX4_chance 50 = .ok (.bipush 20, 2) := by decide +kernel
theorem dX4_chance_52 : decode cX4_chance 52 = .ok (.if_icmp .le 10, 3) := by decide +kernel
theorem dX4_chance_55 : decode cX4_chance 55 = .ok (.aload_n 0, 1) := by decide +kernel
theorem dX4_chance_56 : decode cX4_chance 56 = .ok (.bipush (-6), 2) := by decide +kernel
theorem dX4_chance_58 : decode cX4_chance 58 = .ok (.invokevirtual 142, 3) := by decide +kernel
theorem dX4_chance_61 : decode cX4_chance 61 = .ok (.lreturn, 1) := by decide +kernel
theorem dX4_chance_62 : decode cX4_chance 62 = .ok (.iload 5, 2) := by decide +kernel
theorem dX4_chance_64 : decode cX4_chance 64 = .ok (.iconst 0, 1) := by decide +kernel
theorem dX4_chance_65 : decode cX4_chance 65 = .ok (.iconst 1, 1) := by decide +kernel
theorem dX4_chance_66 : decode cX4_chance 66 = .ok (.invokestatic 40, 3) := by decide +kernel
theorem dX4_chance_69 : decode cX4_chance 69 = .ok (.ifCond .ne 10, 3) := by decide +kernel
theorem dX4_chance_72 : decode cX4_chance 72 = .ok (.aload_n 0, 1) := by decide +kernel
theorem dX4_chance_73 : decode cX4_chance 73 = .ok (.bipush (-2), 2) := by decide +kernel
theorem dX4_chance_75 : decode cX4_chance 75 = .ok (.invokevirtual 142, 3) := by decide +kernel
theorem dX4_chance_78 : decode cX4_chance 78 = .ok (.lreturn, 1) := by decide +kernel
theorem dX4_chance_79 : decode cX4_chance 79 = .ok (.lconst 0, 1) := by decide +kernel
theorem dX4_chance_80 : decode cX4_chance 80 = .ok (.lstore 6, 2) := by decide +kernel
theorem dX4_chance_82 : decode cX4_chance 82 = .ok (.lconst 1, 1) := by decide +kernel
theorem dX4_chance_83 : decode cX4_chance 83 = .ok (.lstore 8, 2) := by decide +kernel
theorem dX4_chance_85 : decode cX4_chance 85 = .ok (.iconst 0, 1) := by decide +kernel
theorem dX4_chance_86 : decode cX4_chance 86 = .ok (.istore 10, 2) := by decide +kernel
theorem dX4_chance_88 : decode cX4_chance 88 = .ok (.iload 10, 2) := by decide +kernel
theorem dX4_chance_90 : decode cX4_chance 90 = .ok (.iload_n 3, 1) := by decide +kernel
theorem dX4_chance_91 : decode cX4_chance 91 = .ok (.if_icmp .ge 17, 3) := by decide +kernel
theorem dX4_chance_94 : decode cX4_chance 94 = .ok (.lload 8, 2) := by decide +kernel
theorem dX4_chance_96 : decode cX4_chance 96 = .ok (.iload 4, 2) := by decide +kernel
theorem dX4_chance_98 : decode cX4_chance 98 = .ok (.i2l, 1) := by decide +kernel
theorem dX4_chance_99 : decode cX4_chance 99 = .ok (.lmul, 1) := by decide +kernel
theorem dX4_chance_100 : decode cX4_chance 100 = .ok (.lstore 8, 2) := by decide +kernel
theorem dX4_chance_102 : decode cX4_chance 102 = .ok (.iinc 10 1, 3) := by decide +kernel
theorem dX4_chance_105 : decode cX4_chance 105 = .ok (.goto (-17), 3) := by decide +kernel
theorem dX4_chance_108 : decode cX4_chance 108 = .ok (.iconst 0, 1) := by decide +kernel
theorem dX4_chance_109 : decode cX4_chance 109 = .ok (.istore 10, 2) := by decide +kernel
theorem dX4_chance_111 : decode cX4_chance 111 = .ok (.iload 10, 2) := by decide +kernel
theorem dX4_chance_113 : decode cX4_chance 113 = .ok (.iconst 1, 1) := by decide +kernel
theorem dX4_chance_114 : decode cX4_chance 114 = .ok (.iload_n 3, 1) := by decide +kernel
theorem dX4_chance_115 : decode cX4_chance 115 = .ok (.ishl, 1) := by decide +kernel
theorem dX4_chance_116 : decode cX4_chance 116 = .ok (.if_icmp .ge 110, 3) := by decide +kernel
theorem dX4_chance_119 : decode cX4_chance 119 = .ok (.aload_n 0, 1) := by decide +kernel
theorem dX4_chance_120 : decode cX4_chance 120 = .ok (.getfield 9, 3) := by decide +kernel
theorem dX4_chance_123 : decode cX4_chance 123 = .ok (.aload_n 0, 1) := by decide +kernel
theorem dX4_chance_124 : decode cX4_chance 124 = .ok (.getfield 13, 3) := by decide +kernel
theorem dX4_chance_127 : decode cX4_chance 127 = .ok (.invokestatic 78, 3) := by decide +kernel
theorem dX4_chance_130 : decode cX4_chance 130 = .ok (.lconst 1, 1) := by decide +kernel
theorem dX4_chance_131 : decode cX4_chance 131 = .ok (.lstore 11, 2) := by decide +kernel
theorem dX4_chance_133 : decode cX4_chance 133 = .ok (.iconst 0, 1) := by decide +kernel
theorem dX4_chance_134 : decode cX4_chance 134 = .ok (.istore 13, 2) := by decide +kernel
theorem dX4_chance_136 : decode cX4_chance 136 = .ok (.iload 13, 2) := by decide +kernel
theorem dX4_chance_138 : decode cX4_chance 138 = .ok (.iload_n 3, 1) := by decide +kernel
theorem dX4_chance_139 : decode cX4_chance 139 = .ok (.if_icmp .ge 56, 3) := by decide +kernel
theorem dX4_chance_142 : decode cX4_chance 142 = .ok (.iload 10, 2) := by decide +kernel
theorem dX4_chance_144 : decode cX4_chance 144 = .ok (.iload 13, 2) := by decide +kernel
theorem dX4_chance_146 : decode cX4_chance 146 = .ok (.ishr, 1) := by decide +kernel
theorem dX4_chance_147 : decode cX4_chance 147 = .ok (.iconst 1, 1) := by decide +kernel
theorem dX4_chance_148 : decode cX4_chance 148 = .ok (.iand, 1) := by decide +kernel
theorem dX4_chance_149 : decode cX4_chance 149 = .ok (.iconst 1, 1) := by decide +kernel
theorem dX4_chance_150 : decode cX4_chance 150 = .ok (.if_icmp .ne 7, 3) := by decide +kernel
theorem dX4_chance_153 : decode cX4_chance 153 = .ok (.iconst 1, 1) := by decide +kernel
theorem dX4_chance_154 : decode cX4_chance 154 = .ok (.goto 4, 3) := by decide +kernel
theorem dX4_chance_157 : decode cX4_chance 157 = .ok (.iconst 0, 1) := by decide +kernel
theorem dX4_chance_158 : decode cX4_chance 158 = .ok (.istore 14, 2) := by decide +kernel
theorem dX4_chance_160 : decode cX4_chance 160 = .ok (.lload 11, 2) := by decide +kernel
theorem dX4_chance_162 : decode cX4_chance 162 = .ok (.iload 14, 2) := by decide +kernel
theorem dX4_chance_164 : decode cX4_chance 164 = .ok (.ifCond .eq 7, 3) := by decide +kernel
theorem dX4_chance_167 : decode cX4_chance 167 = .ok (.lconst 1, 1) := by decide +kernel
theorem dX4_chance_168 : decode cX4_chance 168 = .ok (.goto 8, 3) := by decide +kernel
theorem dX4_chance_171 : decode cX4_chance 171 = .ok (.iload 4, 2) := by decide +kernel
theorem dX4_chance_173 : decode cX4_chance 173 = .ok (.iconst 1, 1) := by decide +kernel
theorem dX4_chance_174 : decode cX4_chance 174 = .ok (.isub, 1) := by decide +kernel
theorem dX4_chance_175 : decode cX4_chance 175 = .ok (.i2l, 1) := by decide +kernel
theorem dX4_chance_176 : decode cX4_chance 176 = .ok (.lmul, 1) := by decide +kernel
theorem dX4_chance_177 : decode cX4_chance 177 = .ok (.lstore 11, 2) := by decide +kernel
theorem dX4_chance_179 : decode cX4_chance 179 = .ok (.aload_n 0, 1) := by decide +kernel
theorem dX4_chance_180 : decode cX4_chance 180 = .ok (.aload_n 0, 1) := by decide +kernel
theorem dX4_chance_181 : decode cX4_chance 181 = .ok (.getfield 13, 3) := by decide +kernel
theorem dX4_chance_184 : decode cX4_chance 184 = .ok (.iload 14, 2) := by decide +kernel
theorem dX4_chance_186 : decode cX4_chance 186 = .ok (.invokevirtual 70, 3) := by decide +kernel
theorem dX4_chance_189 : decode cX4_chance 189 = .ok (.iinc 13 1, 3) := by decide +kernel
theorem dX4_chance_192 : decode cX4_chance 192 = .ok (.goto (-56), 3) := by decide +kernel
theorem dX4_chance_195 : decode cX4_chance 195 = .ok (.lload 6, 2) := by decide +kernel
theorem dX4_chance_197 : decode cX4_chance 197 = .ok (.aload_n 0, 1) := by decide +kernel
theorem dX4_chance_198 : decode cX4_chance 198 = .ok (.getfield 13, 3) := by decide +kernel
theorem dX4_chance_201 : decode cX4_chance 201 = .ok (.iload_n 1, 1) := by decide +kernel
theorem dX4_chance_202 : decode cX4_chance 202 = .ok (.iconst 2, 1) := by decide +kernel
theorem dX4_chance_203 : decode cX4_chance 203 = .ok (.invokestatic 44, 3) := by decide +kernel
theorem dX4_chance_206 : decode cX4_chance 206 = .ok (.iaload, 1) := by decide +kernel
theorem dX4_chance_207 : decode cX4_chance 207 = .ok (.iload_n 2, 1) := by decide +kernel
theorem dX4_chance_208 : decode cX4_chance 208 = .ok (.if_icmp .lt 8, 3) := by decide +kernel
theorem dX4_chance_211 : decode cX4_chance 211 = .ok (.lload 11, 2) := by decide +kernel
theorem dX4_chance_213 : decode cX4_chance 213 = .ok (.goto 4, 3) := by decide +kernel
theorem dX4_chance_216 : decode cX4_chance 216 = .ok (.lconst 0, 1) := by decide +kernel
theorem dX4_chance_217 : decode cX4_chance 217 = .ok (.ladd, 1) := by decide +kernel
theorem dX4_chance_218 : decode cX4_chance 218 = .ok (.lstore 6, 2) := by decide +kernel
theorem dX4_chance_220 : decode cX4_chance 220 = .ok (.iinc 10 1, 3) := by decide +kernel
theorem dX4_chance_223 : decode cX4_chance 223 = .ok (.goto (-112), 3) := by decide +kernel
theorem dX4_chance_226 : decode cX4_chance 226 = .ok (.lload 6, 2) := by decide +kernel
theorem dX4_chance_228 : decode cX4_chance 228 = .ok (.lload 8, 2) := by decide +kernel
theorem dX4_chance_230 : decode cX4_chance 230 = .ok (.iload 5, 2) := by decide +kernel
theorem dX4_chance_232 : decode cX4_chance 232 = .ok (.invokestatic 146, 3) := by decide +kernel
theorem dX4_chance_235 : decode cX4_chance 235 = .ok (.lreturn, 1) := by decide +kernel
theorem dX4_drawn_0 : decode cX4_drawn 0 = .ok (.aload_n 0, 1) := by decide +kernel
theorem dX4_drawn_1 : decode cX4_drawn 1 = .ok (.aload_n 0, 1) := by decide +kernel
theorem dX4_drawn_2 : decode cX4_drawn 2 = .ok (.getfield 176, 3) := by decide +kernel
theorem dX4_drawn_5 : decode cX4_drawn 5 = .ok (.ldc 179, 2) := by decide +kernel
theorem dX4_drawn_7 : decode cX4_drawn 7 = .ok (.imul, 1) := by decide +kernel
theorem dX4_drawn_8 : decode cX4_drawn 8 = .ok (.ldc 180, 2) := by decide +kernel
theorem dX4_drawn_10 : decode cX4_drawn 10 = .ok (.iadd, 1) := by decide +kernel
theorem dX4_drawn_11 : decode cX4_drawn 11 = .ok (.putfield 176, 3) := by decide +kernel
theorem dX4_drawn_14 : decode cX4_drawn 14 = .ok (.aload_n 0, 1) := by decide +kernel
theorem dX4_drawn_15 : decode cX4_drawn 15 = .ok (.getfield 176, 3) := by decide +kernel
theorem dX4_drawn_18 : decode cX4_drawn 18 = .ok (.ldc 181, 2) := by decide +kernel
theorem dX4_drawn_20 : decode cX4_drawn 20 = .ok (.iand, 1) := by decide +kernel
theorem dX4_drawn_21 : decode cX4_drawn 21 = .ok (.sipush 256, 3) := by decide +kernel
theorem dX4_drawn_24 : decode cX4_drawn 24 = .ok (.idiv, 1) := by decide +kernel
theorem dX4_drawn_25 : decode cX4_drawn 25 = .ok (.iload_n 1, 1) := by decide +kernel
theorem dX4_drawn_26 : decode cX4_drawn 26 = .ok (.irem, 1) := by decide +kernel
theorem dX4_drawn_27 : decode cX4_drawn 27 = .ok (.ireturn, 1) := by decide +kernel
theorem dX4_lots_0 : decode cX4_lots 0 = .ok (.iload_n 1, 1) := by decide +kernel
theorem dX4_lots_1 : decode cX4_lots 1 = .ok (.iconst 1, 1) := by decide +kernel
theorem dX4_lots_2 : decode cX4_lots 2 = .ok (.if_icmp .ge 10, 3) := by decide +kernel
theorem dX4_lots_5 : decode cX4_lots 5 = .ok (.aload_n 0, 1) := by decide +kernel
theorem dX4_lots_6 : decode cX4_lots 6 = .ok (.bipush (-4), 2) := by decide +kernel
theorem dX4_lots_8 : decode cX4_lots 8 = .ok (.invokevirtual 36, 3) := by decide +kernel
theorem dX4_lots_11 : decode cX4_lots 11 = .ok (.ireturn, 1) := by decide +kernel
theorem dX4_lots_12 : decode cX4_lots 12 = .ok (.iload_n 1, 1) := by decide +kernel
theorem dX4_lots_13 : decode cX4_lots 13 = .ok (.bipush 20, 2) := by decide +kernel
theorem dX4_lots_15 : decode cX4_lots 15 = .ok (.if_icmp .le 10, 3) := by decide +kernel
theorem dX4_lots_18 : decode cX4_lots 18 = .ok (.aload_n 0, 1) := by decide +kernel
theorem dX4_lots_19 : decode cX4_lots 19 = .ok (.bipush (-6), 2) := by decide +kernel
theorem dX4_lots_21 : decode cX4_lots 21 = .ok (.invokevirtual 36, 3) := by decide +kernel
theorem dX4_lots_24 : decode cX4_lots 24 = .ok (.ireturn, 1) := by decide +kernel
theorem dX4_lots_25 : decode cX4_lots 25 = .ok (.iload_n 3, 1) := by decide +kernel
theorem dX4_lots_26 : decode cX4_lots 26 = .ok (.iconst 0, 1) := by decide +kernel
theorem dX4_lots_27 : decode cX4_lots 27 = .ok (.iconst 1, 1) := by decide +kernel
theorem dX4_lots_28 : decode cX4_lots 28 = .ok (.invokestatic 40, 3) := by decide +kernel
theorem dX4_lots_31 : decode cX4_lots 31 = .ok (.ifCond .ne 10, 3) := by decide +kernel
theorem dX4_lots_34 : decode cX4_lots 34 = .ok (.aload_n 0, 1) := by decide +kernel
theorem dX4_lots_35 : decode cX4_lots 35 = .ok (.bipush (-2), 2) := by decide +kernel
theorem dX4_lots_37 : decode cX4_lots 37 = .ok (.invokevirtual 36, 3) := by decide +kernel
theorem dX4_lots_40 : decode cX4_lots 40 = .ok (.ireturn, 1) := by decide +kernel
theorem dX4_lots_41 : decode cX4_lots 41 = .ok (.aload_n 0, 1) := by decide +kernel
theorem dX4_lots_42 : decode cX4_lots 42 = .ok (.iload_n 2, 1) := by decide +kernel
theorem dX4_lots_43 : decode cX4_lots 43 = .ok (.putfield 176, 3) := by decide +kernel
theorem dX4_lots_46 : decode cX4_lots 46 = .ok (.iconst 0, 1) := by decide +kernel
theorem dX4_lots_47 : decode cX4_lots 47 = .ok (.istore 4, 2) := by decide +kernel
theorem dX4_lots_49 : decode cX4_lots 49 = .ok (.iconst 0, 1) := by decide +kernel
theorem dX4_lots_50 : decode cX4_lots 50 = .ok (.istore 5, 2) := by decide +kernel
theorem dX4_lots_52 : decode cX4_lots 52 = .ok (.iload 5, 2) := by decide +kernel
theorem dX4_lots_54 : decode cX4_lots 54 = .ok (.iload_n 1, 1) := by decide +kernel
theorem dX4_lots_55 : decode cX4_lots 55 = .ok (.if_icmp .ge 65, 3) := by decide +kernel
theorem dX4_lots_58 : decode cX4_lots 58 = .ok (.aload_n 0, 1) := by decide +kernel
theorem dX4_lots_59 : decode cX4_lots 59 = .ok (.getfield 9, 3) := by decide +kernel
theorem dX4_lots_62 : decode cX4_lots 62 = .ok (.aload_n 0, 1) := by decide +kernel
theorem dX4_lots_63 : decode cX4_lots 63 = .ok (.getfield 13, 3) := by decide +kernel
theorem dX4_lots_66 : decode cX4_lots 66 = .ok (.invokestatic 78, 3) := by decide +kernel
theorem dX4_lots_69 : decode cX4_lots 69 = .ok (.aload_n 0, 1) := by decide +kernel
theorem dX4_lots_70 : decode cX4_lots 70 = .ok (.getfield 13, 3) := by decide +kernel
theorem dX4_lots_73 : decode cX4_lots 73 = .ok (.iconst 3, 1) := by decide +kernel
theorem dX4_lots_74 : decode cX4_lots 74 = .ok (.aload_n 0, 1) := by decide +kernel
theorem dX4_lots_75 : decode cX4_lots 75 = .ok (.bipush 9, 2) := by decide +kernel
theorem dX4_lots_77 : decode cX4_lots 77 = .ok (.invokevirtual 182, 3) := by decide +kernel
theorem dX4_lots_80 : decode cX4_lots 80 = .ok (.iconst 1, 1) := by decide +kernel
theorem dX4_lots_81 : decode cX4_lots 81 = .ok (.iadd, 1) := by decide +kernel
theorem dX4_lots_82 : decode cX4_lots 82 = .ok (.iastore, 1) := by decide +kernel
theorem dX4_lots_83 : decode cX4_lots 83 = .ok (.aload_n 0, 1) := by decide +kernel
theorem dX4_lots_84 : decode cX4_lots 84 = .ok (.aload_n 0, 1) := by decide +kernel
theorem dX4_lots_85 : decode cX4_lots 85 = .ok (.getfield 13, 3) := by decide +kernel
theorem dX4_lots_88 : decode cX4_lots 88 = .ok (.bipush 20, 2) := by decide +kernel
theorem dX4_lots_90 : decode cX4_lots 90 = .ok (.invokevirtual 82, 3) := by decide +kernel
theorem dX4_lots_93 : decode cX4_lots 93 = .ok (.iload 4, 2) := by decide +kernel
theorem dX4_lots_95 : decode cX4_lots 95 = .ok (.aload_n 0, 1) := by decide +kernel
theorem dX4_lots_96 : decode cX4_lots 96 = .ok (.getfield 13, 3) := by decide +kernel
theorem dX4_lots_99 : decode cX4_lots 99 = .ok (.iload_n 3, 1) := by decide +kernel
theorem dX4_lots_100 : decode cX4_lots 100 = .ok (.ifCond .ne 7, 3) := by decide +kernel
theorem dX4_lots_103 : decode cX4_lots 103 = .ok (.iconst 2, 1) := by decide +kernel
theorem dX4_lots_104 : decode cX4_lots 104 = .ok (.goto 4, 3) := by decide +kernel
theorem dX4_lots_107 : decode cX4_lots 107 = .ok (.iconst 5, 1) := by decide +kernel
theorem dX4_lots_108 : decode cX4_lots 108 = .ok (.invokestatic 135, 3) := by decide +kernel
theorem dX4_lots_111 : decode cX4_lots 111 = .ok (.iadd, 1) := by decide +kernel
theorem dX4_lots_112 : decode cX4_lots 112 = .ok (.istore 4, 2) := by decide +kernel
theorem dX4_lots_114 : decode cX4_lots 114 = .ok (.iinc 5 1, 3) := by decide +kernel
theorem dX4_lots_117 : decode cX4_lots 117 = .ok (.goto (-65), 3) := by decide +kernel
theorem dX4_lots_120 : decode cX4_lots 120 = .ok (.iload 4, 2) := by decide +kernel
theorem dX4_lots_122 : decode cX4_lots 122 = .ok (.ireturn, 1) := by decide +kernel
theorem dX4_image_0 : decode cX4_image 0 = .ok (.aload_n 0, 1) := by decide +kernel
theorem dX4_image_1 : decode cX4_image 1 = .ok (.getfield 9, 3) := by decide +kernel
theorem dX4_image_4 : decode cX4_image 4 = .ok (.aload_n 0, 1) := by decide +kernel
theorem dX4_image_5 : decode cX4_image 5 = .ok (.getfield 16, 3) := by decide +kernel
theorem dX4_image_8 : decode cX4_image 8 = .ok (.invokestatic 78, 3) := by decide +kernel
theorem dX4_image_11 : decode cX4_image 11 = .ok (.aload_n 0, 1) := by decide +kernel
theorem dX4_image_12 : decode cX4_image 12 = .ok (.iconst 1, 1) := by decide +kernel
theorem dX4_image_13 : decode cX4_image 13 = .ok (.putfield 185, 3) := by decide +kernel
theorem dX4_image_16 : decode cX4_image 16 = .ok (.aload_n 0, 1) := by decide +kernel
theorem dX4_image_17 : decode cX4_image 17 = .ok (.getfield 9, 3) := by decide +kernel
theorem dX4_image_20 : decode cX4_image 20 = .ok (.iconst 1, 1) := by decide +kernel
theorem dX4_image_21 : decode cX4_image 21 = .ok (.iaload, 1) := by decide +kernel
theorem dX4_image_22 : decode cX4_image 22 = .ok (.ireturn, 1) := by decide +kernel
theorem dX4_on_0 : decode cX4_on 0 = .ok (.aload_n 0, 1) := by decide +kernel
theorem dX4_on_1 : decode cX4_on 1 = .ok (.getfield 185, 3) := by decide +kernel
theorem dX4_on_4 : decode cX4_on 4 = .ok (.ifCond .ne 10, 3) := by decide +kernel
theorem dX4_on_7 : decode cX4_on 7 = .ok (.aload_n 0, 1) := by decide +kernel
theorem dX4_on_8 : decode cX4_on 8 = .ok (.bipush (-3), 2) := by decide +kernel
theorem dX4_on_10 : decode cX4_on 10 = .ok (.invokevirtual 36, 3) := by decide +kernel
theorem dX4_on_13 : decode cX4_on 13 = .ok (.ireturn, 1) := by decide +kernel
theorem dX4_on_14 : decode cX4_on 14 = .ok (.aload_n 0, 1) := by decide +kernel
theorem dX4_on_15 : decode cX4_on 15 = .ok (.getfield 16, 3) := by decide +kernel
theorem dX4_on_18 : decode cX4_on 18 = .ok (.aload_n 0, 1) := by decide +kernel
theorem dX4_on_19 : decode cX4_on 19 = .ok (.getfield 9, 3) := by decide +kernel
theorem dX4_on_22 : decode cX4_on 22 = .ok (.invokestatic 78, 3) := by decide +kernel
theorem dX4_on_25 : decode cX4_on 25 = .ok (.aload_n 0, 1) := by decide +kernel
theorem dX4_on_26 : decode cX4_on 26 = .ok (.getfield 9, 3) := by decide +kernel
theorem dX4_on_29 : decode cX4_on 29 = .ok (.iconst 1, 1) := by decide +kernel
theorem dX4_on_30 : decode cX4_on 30 = .ok (.iaload, 1) := by decide +kernel
theorem dX4_on_31 : decode cX4_on 31 = .ok (.ireturn, 1) := by decide +kernel
theorem dX4_count_0 : decode cX4_count 0 = .ok (.iload_n 1, 1) := by decide +kernel
theorem dX4_count_1 : decode cX4_count 1 = .ok (.bipush 11, 2) := by decide +kernel
theorem dX4_count_3 : decode cX4_count 3 = .ok (.bipush 16, 2) := by decide +kernel
theorem dX4_count_5 : decode cX4_count 5 = .ok (.invokestatic 40, 3) := by decide +kernel
theorem dX4_count_8 : decode cX4_count 8 = .ok (.ifCond .eq 13, 3) := by decide +kernel
theorem dX4_count_11 : decode cX4_count 11 = .ok (.aload_n 0, 1) := by decide +kernel
theorem dX4_count_12 : decode cX4_count 12 = .ok (.getfield 28, 3) := by decide +kernel
theorem dX4_count_15 : decode cX4_count 15 = .ok (.iload_n 1, 1) := by decide +kernel
theorem dX4_count_16 : decode cX4_count 16 = .ok (.bipush 10, 2) := by decide +kernel
theorem dX4_count_18 : decode cX4_count 18 = .ok (.isub, 1) := by decide +kernel
theorem dX4_count_19 : decode cX4_count 19 = .ok (.iaload, 1) := by decide +kernel
theorem dX4_count_20 : decode cX4_count 20 = .ok (.ireturn, 1) := by decide +kernel
theorem dX4_count_21 : decode cX4_count 21 = .ok (.iload_n 1, 1) := by decide +kernel
theorem dX4_count_22 : decode cX4_count 22 = .ok (.tableswitch 85 0 8 #[50, 50, 50, 50, 50, 57, 66, 75, 80], 50) := by decide +kernel
theorem dX4_count_72 : decode cX4_count 72 = .ok (.aload_n 0, 1) := by decide +kernel
theorem dX4_count_73 : decode cX4_count 73 = .ok (.getfield 9, 3) := by decide +kernel
theorem dX4_count_76 : decode cX4_count 76 = .ok (.iload_n 1, 1) := by decide +kernel
theorem dX4_count_77 : decode cX4_count 77 = .ok (.iaload, 1) := by decide +kernel
theorem dX4_count_78 : decode cX4_count 78 = .ok (.ireturn, 1) := by decide +kernel
theorem dX4_count_79 : decode cX4_count 79 = .ok (.aload_n 0, 1) := by decide +kernel
theorem dX4_count_80 : decode cX4_count 80 = .ok (.getfield 9, 3) := by decide +kernel
theorem dX4_count_83 : decode cX4_count 83 = .ok (.iconst 2, 1) := by decide +kernel
theorem dX4_count_84 : decode cX4_count 84 = .ok (.invokestatic 135, 3) := by decide +kernel
theorem dX4_count_87 : decode cX4_count 87 = .ok (.ireturn, 1) := by decide +kernel
theorem dX4_count_88 : decode cX4_count 88 = .ok (.aload_n 0, 1) := by decide +kernel
theorem dX4_count_89 : decode cX4_count 89 = .ok (.getfield 9, 3) := by decide +kernel
theorem dX4_count_92 : decode cX4_count 92 = .ok (.iconst 5, 1) := by decide +kernel
theorem dX4_count_93 : decode cX4_count 93 = .ok (.invokestatic 135, 3) := by decide +kernel
theorem dX4_count_96 : decode cX4_count 96 = .ok (.ireturn, 1) := by decide +kernel
theorem dX4_count_97 : decode cX4_count 97 = .ok (.aload_n 0, 1) := by decide +kernel
theorem dX4_count_98 : decode cX4_count 98 = .ok (.getfield 170, 3) := by decide +kernel
theorem dX4_count_101 : decode cX4_count 101 = .ok (.ireturn, 1) := by decide +kernel
theorem dX4_count_102 : decode cX4_count 102 = .ok (.aload_n 0, 1) := by decide +kernel
theorem dX4_count_103 : decode cX4_count 103 = .ok (.getfield 86, 3) := by decide +kernel
theorem dX4_count_106 : decode cX4_count 106 = .ok (.ireturn, 1) := by decide +kernel
theorem dX4_count_107 : decode cX4_count 107 = .ok (.bipush (-9), 2) := by decide +kernel
theorem dX4_count_109 : decode cX4_count 109 = .ok (.ireturn, 1) := by decide +kernel
theorem dL_law_0 : decode cL_law 0 = .ok (.new 7, 3) := by decide +kernel
theorem dL_law_3 : decode cL_law 3 = .ok (.dup, 1) := by decide +kernel
theorem dL_law_4 : decode cL_law 4 = .ok (.invokespecial 9, 3) := by decide +kernel
theorem dL_law_7 : decode cL_law 7 = .ok (.astore_n 1, 1) := by decide +kernel
theorem dL_law_8 : decode cL_law 8 = .ok (.new 10, 3) := by decide +kernel
theorem dL_law_11 : decode cL_law 11 = .ok (.dup, 1) := by decide +kernel
theorem dL_law_12 : decode cL_law 12 = .ok (.invokespecial 12, 3) := by decide +kernel
theorem dL_law_15 : decode cL_law 15 = .ok (.astore_n 2, 1) := by decide +kernel
theorem dL_law_16 : decode cL_law 16 = .ok (.iconst 0, 1) := by decide +kernel
theorem dL_law_17 : decode cL_law 17 = .ok (.istore_n 3, 1) := by decide +kernel
theorem dL_law_18 : decode cL_law 18 = .ok (.iload_n 3, 1) := by decide +kernel
theorem dL_law_19 : decode cL_law 19 = .ok (.aload_n 0, 1) := by decide +kernel
theorem dL_law_20 : decode cL_law 20 = .ok (.arraylength, 1) := by decide +kernel
theorem dL_law_21 : decode cL_law 21 = .ok (.bipush 6, 2) := by decide +kernel
theorem dL_law_23 : decode cL_law 23 = .ok (.isub, 1) := by decide +kernel
theorem dL_law_24 : decode cL_law 24 = .ok (.if_icmp .gt 1066, 3) := by decide +kernel
theorem dL_law_27 : decode cL_law 27 = .ok (.aload_n 0, 1) := by decide +kernel
theorem dL_law_28 : decode cL_law 28 = .ok (.iload_n 3, 1) := by decide +kernel
theorem dL_law_29 : decode cL_law 29 = .ok (.iaload, 1) := by decide +kernel
theorem dL_law_30 : decode cL_law 30 = .ok (.bipush 31, 2) := by decide +kernel
theorem dL_law_32 : decode cL_law 32 = .ok (.iand, 1) := by decide +kernel
theorem dL_law_33 : decode cL_law 33 = .ok (.tableswitch 1051 0 31 #[143, 166, 179, 212, 245, 278, 321, 364, 387, 430, 463, 507, 530, 553, 586, 599, 622, 655, 678, 691, 714, 737, 760, 793, 816, 839, 872, 895, 959, 1002, 1015, 1028], 143) := by decide +kernel
theorem dL_law_176 : decode cL_law 176 = .ok (.aload_n 1, 1) := by decide +kernel
theorem dL_law_177 : decode cL_law 177 = .ok (.aload_n 0, 1) := by decide +kernel
theorem dL_law_178 : decode cL_law 178 = .ok (.iload_n 3, 1) := by decide +kernel
theorem dL_law_179 : decode cL_law 179 = .ok (.iconst 1, 1) := by decide +kernel
theorem dL_law_180 : decode cL_law 180 = .ok (.iadd, 1) := by decide +kernel
theorem dL_law_181 : decode cL_law 181 = .ok (.iaload, 1) := by decide +kernel
theorem dL_law_182 : decode cL_law 182 = .ok (.invokevirtual 13, 3) := by decide +kernel
theorem dL_law_185 : decode cL_law 185 = .ok (.aload_n 2, 1) := by decide +kernel
theorem dL_law_186 : decode cL_law 186 = .ok (.aload_n 0, 1) := by decide +kernel
theorem dL_law_187 : decode cL_law 187 = .ok (.iload_n 3, 1) := by decide +kernel
theorem dL_law_188 : decode cL_law 188 = .ok (.iconst 1, 1) := by decide +kernel
theorem dL_law_189 : decode cL_law 189 = .ok (.iadd, 1) := by decide +kernel
theorem dL_law_190 : decode cL_law 190 = .ok (.iaload, 1) := by decide +kernel
theorem dL_law_191 : decode cL_law 191 = .ok (.invokevirtual 17, 3) := by decide +kernel
theorem dL_law_194 : decode cL_law 194 = .ok (.if_icmp .eq 890, 3) := by decide +kernel
theorem dL_law_197 : decode cL_law 197 = .ok (.iconst 0, 1) := by decide +kernel
theorem dL_law_198 : decode cL_law 198 = .ok (.ireturn, 1) := by decide +kernel
theorem dL_law_199 : decode cL_law 199 = .ok (.aload_n 1, 1) := by decide +kernel
theorem dL_law_200 : decode cL_law 200 = .ok (.invokevirtual 18, 3) := by decide +kernel
theorem dL_law_203 : decode cL_law 203 = .ok (.aload_n 2, 1) := by decide +kernel
theorem dL_law_204 : decode cL_law 204 = .ok (.invokevirtual 22, 3) := by decide +kernel
theorem dL_law_207 : decode cL_law 207 = .ok (.if_icmp .eq 877, 3) := by decide +kernel
theorem dL_law_210 : decode cL_law 210 = .ok (.iconst 0, 1) := by decide +kernel
theorem dL_law_211 : decode cL_law 211 = .ok (.ireturn, 1) := by decide +kernel
theorem dL_law_212 : decode cL_law 212 = .ok (.aload_n 1, 1) := by decide +kernel
theorem dL_law_213 : decode cL_law 213 = .ok (.aload_n 0, 1) := by decide +kernel
theorem dL_law_214 : decode cL_law 214 = .ok (.iload_n 3, 1) := by decide +kernel
theorem dL_law_215 : decode cL_law 215 = .ok (.iconst 1, 1) := by decide +kernel
theorem dL_law_216 : decode cL_law 216 = .ok (.iadd, 1) := by decide +kernel
theorem dL_law_217 : decode cL_law 217 = .ok (.iaload, 1) := by decide +kernel
theorem dL_law_218 : decode cL_law 218 = .ok (.aload_n 0, 1) := by decide +kernel
theorem dL_law_219 : decode cL_law 219 = .ok (.iload_n 3, 1) := by decide +kernel
theorem dL_law_220 : decode cL_law 220 = .ok (.iconst 2, 1) := by decide +kernel
theorem dL_law_221 : decode cL_law 221 = .ok (.iadd, 1) := by decide +kernel
theorem dL_law_222 : decode cL_law 222 = .ok (.iaload, 1) := by decide +kernel
theorem dL_law_223 : decode cL_law 223 = .ok (.invokevirtual 23, 3) := by decide +kernel
theorem dL_law_226 : decode cL_law 226 = .ok (.aload_n 2, 1) := by decide +kernel
theorem dL_law_227 : decode cL_law 227 = .ok (.aload_n 0, 1) := by decide +kernel
theorem dL_law_228 : decode cL_law 228 = .ok (.iload_n 3, 1) := by decide +kernel
theorem dL_law_229 : decode cL_law 229 = .ok (.iconst 1, 1) := by decide +kernel
theorem dL_law_230 : decode cL_law 230 = .ok (.iadd, 1) := by decide +kernel
theorem dL_law_231 : decode cL_law 231 = .ok (.iaload, 1) := by decide +kernel
theorem dL_law_232 : decode cL_law 232 = .ok (.aload_n 0, 1) := by decide +kernel
theorem dL_law_233 : decode cL_law 233 = .ok (.iload_n 3, 1) := by decide +kernel
theorem dL_law_234 : decode cL_law 234 = .ok (.iconst 2, 1) := by decide +kernel
theorem dL_law_235 : decode cL_law 235 = .ok (.iadd, 1) := by decide +kernel
theorem dL_law_236 : decode cL_law 236 = .ok (.iaload, 1) := by decide +kernel
theorem dL_law_237 : decode cL_law 237 = .ok (.invokevirtual 27, 3) := by decide +kernel
theorem dL_law_240 : decode cL_law 240 = .ok (.if_icmp .eq 844, 3) := by decide +kernel
theorem dL_law_243 : decode cL_law 243 = .ok (.iconst 0, 1) := by decide +kernel
theorem dL_law_244 : decode cL_law 244 = .ok (.ireturn, 1) := by decide +kernel
theorem dL_law_245 : decode cL_law 245 = .ok (.aload_n 1, 1) := by decide +kernel
theorem dL_law_246 : decode cL_law 246 = .ok (.aload_n 0, 1) := by decide +kernel
theorem dL_law_247 : decode cL_law 247 = .ok (.iload_n 3, 1) := by decide +kernel
theorem dL_law_248 : decode cL_law 248 = .ok (.iconst 1, 1) := by decide +kernel
theorem dL_law_249 : decode cL_law 249 = .ok (.iadd, 1) := by decide +kernel
theorem dL_law_250 : decode cL_law 250 = .ok (.iaload, 1) := by decide +kernel
theorem dL_law_251 : decode cL_law 251 = .ok (.aload_n 0, 1) := by decide +kernel
theorem dL_law_252 : decode cL_law 252 = .ok (.iload_n 3, 1) := by decide +kernel
theorem dL_law_253 : decode cL_law 253 = .ok (.iconst 2, 1) := by decide +kernel
theorem dL_law_254 : decode cL_law 254 = .ok (.iadd, 1) := by decide +kernel
theorem dL_law_255 : decode cL_law 255 = .ok (.iaload, 1) := by decide +kernel
theorem dL_law_256 : decode cL_law 256 = .ok (.invokevirtual 28, 3) := by decide +kernel
theorem dL_law_259 : decode cL_law 259 = .ok (.aload_n 2, 1) := by decide +kernel
theorem dL_law_260 : decode cL_law 260 = .ok (.aload_n 0, 1) := by decide +kernel
theorem dL_law_261 : decode cL_law 261 = .ok (.iload_n 3, 1) := by decide +kernel
theorem dL_law_262 : decode cL_law 262 = .ok (.iconst 1, 1) := by decide +kernel
theorem dL_law_263 : decode cL_law 263 = .ok (.iadd, 1) := by decide +kernel
theorem dL_law_264 : decode cL_law 264 = .ok (.iaload, 1) := by decide +kernel
theorem dL_law_265 : decode cL_law 265 = .ok (.aload_n 0, 1) := by decide +kernel
theorem dL_law_266 : decode cL_law 266 = .ok (.iload_n 3, 1) := by decide +kernel
theorem dL_law_267 : decode cL_law 267 = .ok (.iconst 2, 1) := by decide +kernel
theorem dL_law_268 : decode cL_law 268 = .ok (.iadd, 1) := by decide +kernel
theorem dL_law_269 : decode cL_law 269 = .ok (.iaload, 1) := by decide +kernel
theorem dL_law_270 : decode cL_law 270 = .ok (.invokevirtual 31, 3) := by decide +kernel
theorem dL_law_273 : decode cL_law 273 = .ok (.if_icmp .eq 811, 3) := by decide +kernel
theorem dL_law_276 : decode cL_law 276 = .ok (.iconst 0, 1) := by decide +kernel
theorem dL_law_277 : decode cL_law 277 = .ok (.ireturn, 1) := by decide +kernel
theorem dL_law_278 : decode cL_law 278 = .ok (.aload_n 1, 1) := by decide +kernel
theorem dL_law_279 : decode cL_law 279 = .ok (.aload_n 0, 1) := by decide +kernel
theorem dL_law_280 : decode cL_law 280 = .ok (.iload_n 3, 1) := by decide +kernel
theorem dL_law_281 : decode cL_law 281 = .ok (.iconst 1, 1) := by decide +kernel
theorem dL_law_282 : decode cL_law 282 = .ok (.iadd, 1) := by decide +kernel
theorem dL_law_283 : decode cL_law 283 = .ok (.iaload, 1) := by decide +kernel
theorem dL_law_284 : decode cL_law 284 = .ok (.aload_n 0, 1) := by decide +kernel
theorem dL_law_285 : decode cL_law 285 = .ok (.iload_n 3, 1) := by decide +kernel
theorem dL_law_286 : decode cL_law 286 = .ok (.iconst 2, 1) := by decide +kernel
theorem dL_law_287 : decode cL_law 287 = .ok (.iadd, 1) := by decide +kernel
theorem dL_law_288 : decode cL_law 288 = .ok (.iaload, 1) := by decide +kernel
theorem dL_law_289 : decode cL_law 289 = .ok (.invokevirtual 32, 3) := by decide +kernel
theorem dL_law_292 : decode cL_law 292 = .ok (.aload_n 2, 1) := by decide +kernel
theorem dL_law_293 : decode cL_law 293 = .ok (.aload_n 0, 1) := by decide +kernel
theorem dL_law_294 : decode cL_law 294 = .ok (.iload_n 3, 1) := by decide +kernel
theorem dL_law_295 : decode cL_law 295 = .ok (.iconst 1, 1) := by decide +kernel
theorem dL_law_296 : decode cL_law 296 = .ok (.iadd, 1) := by decide +kernel
theorem dL_law_297 : decode cL_law 297 = .ok (.iaload, 1) := by decide +kernel
theorem dL_law_298 : decode cL_law 298 = .ok (.aload_n 0, 1) := by decide +kernel
theorem dL_law_299 : decode cL_law 299 = .ok (.iload_n 3, 1) := by decide +kernel
theorem dL_law_300 : decode cL_law 300 = .ok (.iconst 2, 1) := by decide +kernel
theorem dL_law_301 : decode cL_law 301 = .ok (.iadd, 1) := by decide +kernel
theorem dL_law_302 : decode cL_law 302 = .ok (.iaload, 1) := by decide +kernel
theorem dL_law_303 : decode cL_law 303 = .ok (.invokevirtual 35, 3) := by decide +kernel
theorem dL_law_306 : decode cL_law 306 = .ok (.if_icmp .eq 778, 3) := by decide +kernel
theorem dL_law_309 : decode cL_law 309 = .ok (.iconst 0, 1) := by decide +kernel
theorem dL_law_310 : decode cL_law 310 = .ok (.ireturn, 1) := by decide +kernel
theorem dL_law_311 : decode cL_law 311 = .ok (.aload_n 1, 1) := by decide +kernel
theorem dL_law_312 : decode cL_law 312 = .ok (.aload_n 0, 1) := by decide +kernel
theorem dL_law_313 : decode cL_law 313 = .ok (.iload_n 3, 1) := by decide +kernel
theorem dL_law_314 : decode cL_law 314 = .ok (.iconst 1, 1) := by decide +kernel
theorem dL_law_315 : decode cL_law 315 = .ok (.iadd, 1) := by decide +kernel
theorem dL_law_316 : decode cL_law 316 = .ok (.iaload, 1) := by decide +kernel
theorem dL_law_317 : decode cL_law 317 = .ok (.aload_n 0, 1) := by decide +kernel
theorem dL_law_318 : decode cL_law 318 = .ok (.iload_n 3, 1) := by decide +kernel
theorem dL_law_319 : decode cL_law 319 = .ok (.iconst 2, 1) := by decide +kernel
theorem dL_law_320 : decode cL_law 320 = .ok (.iadd, 1) := by decide +kernel
theorem dL_law_321 : decode cL_law 321 = .ok (.iaload, 1) := by decide +kernel
theorem dL_law_322 : decode cL_law 322 = .ok (.aload_n 0, 1) := by decide +kernel
theorem dL_law_323 : decode cL_law 323 = .ok (.iload_n 3, 1) := by decide +kernel
theorem dL_law_324 : decode cL_law 324 = .ok (.iconst 3, 1) := by decide +kernel
theorem dL_law_325 : decode cL_law 325 = .ok (.iadd, 1) := by decide +kernel
theorem dL_law_326 : decode cL_law 326 = .ok (.iaload, 1) := by decide +kernel
theorem dL_law_327 : decode cL_law 327 = .ok (.invokevirtual 36, 3) := by decide +kernel
theorem dL_law_330 : decode cL_law 330 = .ok (.aload_n 2, 1) := by decide +kernel
theorem dL_law_331 : decode cL_law 331 = .ok (.aload_n 0, 1) := by decide +kernel
theorem dL_law_332 : decode cL_law 332 = .ok (.iload_n 3, 1) := by decide +kernel
theorem dL_law_333 : decode cL_law 333 = .ok (.iconst 1, 1) := by decide +kernel
theorem dL_law_334 : decode cL_law 334 = .ok (.iadd, 1) := by decide +kernel
theorem dL_law_335 : decode cL_law 335 = .ok (.iaload, 1) := by decide +kernel
theorem dL_law_336 : decode cL_law 336 = .ok (.aload_n 0, 1) := by decide +kernel
theorem dL_law_337 : decode cL_law 337 = .ok (.iload_n 3, 1) := by decide +kernel
theorem dL_law_338 : decode cL_law 338 = .ok (.iconst 2, 1) := by decide +kernel
theorem dL_law_339 : decode cL_law 339 = .ok (.iadd, 1) := by decide +kernel
theorem dL_law_340 : decode cL_law 340 = .ok (.iaload, 1) := by decide +kernel
theorem dL_law_341 : decode cL_law 341 = .ok (.aload_n 0, 1) := by decide +kernel
theorem dL_law_342 : decode cL_law 342 = .ok (.iload_n 3, 1) := by decide +kernel
theorem dL_law_343 : decode cL_law 343 = .ok (.iconst 3, 1) := by decide +kernel
theorem dL_law_344 : decode cL_law 344 = .ok (.iadd, 1) := by decide +kernel
theorem dL_law_345 : decode cL_law 345 = .ok (.iaload, 1) := by decide +kernel
theorem dL_law_346 : decode cL_law 346 = .ok (.invokevirtual 40, 3) := by decide +kernel
theorem dL_law_349 : decode cL_law 349 = .ok (.if_icmp .eq 735, 3) := by decide +kernel
theorem dL_law_352 : decode cL_law 352 = .ok (.iconst 0, 1) := by decide +kernel
theorem dL_law_353 : decode cL_law 353 = .ok (.ireturn, 1) := by decide +kernel
theorem dL_law_354 : decode cL_law 354 = .ok (.aload_n 1, 1) := by decide +kernel
theorem dL_law_355 : decode cL_law 355 = .ok (.aload_n 0, 1) := by decide +kernel
theorem dL_law_356 : decode cL_law 356 = .ok (.iload_n 3, 1) := by decide +kernel
theorem dL_law_357 : decode cL_law 357 = .ok (.iconst 1, 1) := by decide +kernel
theorem dL_law_358 : decode cL_law 358 = .ok (.iadd, 1) := by decide +kernel
theorem dL_law_359 : decode cL_law 359 = .ok (.iaload, 1) := by decide +kernel
theorem dL_law_360 : decode cL_law 360 = .ok (.aload_n 0, 1) := by decide +kernel
theorem dL_law_361 : decode cL_law 361 = .ok (.iload_n 3, 1) := by decide +kernel
theorem dL_law_362 : decode cL_law 362 = .ok (.iconst 2, 1) := by decide +kernel
theorem dL_law_363 : decode cL_law 363 = .ok (.iadd, 1) := by decide +kernel
theorem dL_law_364 : decode cL_law 364 = .ok (.iaload, 1) := by decide +kernel
theorem dL_law_365 : decode cL_law 365 = .ok (.aload_n 0, 1) := by decide +kernel
theorem dL_law_366 : decode cL_law 366 = .ok (.iload_n 3, 1) := by decide +kernel
theorem dL_law_367 : decode cL_law 367 = .ok (.iconst 3, 1) := by decide +kernel
theorem dL_law_368 : decode cL_law 368 = .ok (.iadd, 1) := by decide +kernel
theorem dL_law_369 : decode cL_law 369 = .ok (.iaload, 1) := by decide +kernel
theorem dL_law_370 : decode cL_law 370 = .ok (.invokevirtual 41, 3) := by decide +kernel
theorem dL_law_373 : decode cL_law 373 = .ok (.aload_n 2, 1) := by decide +kernel
theorem dL_law_374 : decode cL_law 374 = .ok (.aload_n 0, 1) := by decide +kernel
theorem dL_law_375 : decode cL_law 375 = .ok (.iload_n 3, 1) := by decide +kernel
theorem dL_law_376 : decode cL_law 376 = .ok (.iconst 1, 1) := by decide +kernel
theorem dL_law_377 : decode cL_law 377 = .ok (.iadd, 1) := by decide +kernel
theorem dL_law_378 : decode cL_law 378 = .ok (.iaload, 1) := by decide +kernel
theorem dL_law_379 : decode cL_law 379 = .ok (.aload_n 0, 1) := by decide +kernel
theorem dL_law_380 : decode cL_law 380 = .ok (.iload_n 3, 1) := by decide +kernel
theorem dL_law_381 : decode cL_law 381 = .ok (.iconst 2, 1) := by decide +kernel
theorem dL_law_382 : decode cL_law 382 = .ok (.iadd, 1) := by decide +kernel
theorem dL_law_383 : decode cL_law 383 = .ok (.iaload, 1) := by decide +kernel
theorem dL_law_384 : decode cL_law 384 = .ok (.aload_n 0, 1) := by decide +kernel
theorem dL_law_385 : decode cL_law 385 = .ok (.iload_n 3, 1) := by decide +kernel
theorem dL_law_386 : decode cL_law 386 = .ok (.iconst 3, 1) := by decide +kernel
theorem dL_law_387 : decode cL_law 387 = .ok (.iadd, 1) := by decide +kernel
theorem dL_law_388 : decode cL_law 388 = .ok (.iaload, 1) := by decide +kernel
theorem dL_law_389 : decode cL_law 389 = .ok (.invokevirtual 44, 3) := by decide +kernel
theorem dL_law_392 : decode cL_law 392 = .ok (.if_icmp .eq 692, 3) := by decide +kernel
theorem dL_law_395 : decode cL_law 395 = .ok (.iconst 0, 1) := by decide +kernel
theorem dL_law_396 : decode cL_law 396 = .ok (.ireturn, 1) := by decide +kernel
theorem dL_law_397 : decode cL_law 397 = .ok (.aload_n 1, 1) := by decide +kernel
theorem dL_law_398 : decode cL_law 398 = .ok (.aload_n 0, 1) := by decide +kernel
theorem dL_law_399 : decode cL_law 399 = .ok (.iload_n 3, 1) := by decide +kernel
theorem dL_law_400 : decode cL_law 400 = .ok (.iconst 1, 1) := by decide +kernel
theorem dL_law_401 : decode cL_law 401 = .ok (.iadd, 1) := by decide +kernel
theorem dL_law_402 : decode cL_law 402 = .ok (.iaload, 1) := by decide +kernel
theorem dL_law_403 : decode cL_law 403 = .ok (.invokevirtual 45, 3) := by decide +kernel
theorem dL_law_406 : decode cL_law 406 = .ok (.aload_n 2, 1) := by decide +kernel
theorem dL_law_407 : decode cL_law 407 = .ok (.aload_n 0, 1) := by decide +kernel
theorem dL_law_408 : decode cL_law 408 = .ok (.iload_n 3, 1) := by decide +kernel
theorem dL_law_409 : decode cL_law 409 = .ok (.iconst 1, 1) := by decide +kernel
theorem dL_law_410 : decode cL_law 410 = .ok (.iadd, 1) := by decide +kernel
theorem dL_law_411 : decode cL_law 411 = .ok (.iaload, 1) := by decide +kernel
theorem dL_law_412 : decode cL_law 412 = .ok (.invokevirtual 48, 3) := by decide +kernel
theorem dL_law_415 : decode cL_law 415 = .ok (.if_icmp .eq 669, 3) := by decide +kernel
theorem dL_law_418 : decode cL_law 418 = .ok (.iconst 0, 1) := by decide +kernel
theorem dL_law_419 : decode cL_law 419 = .ok (.ireturn, 1) := by decide +kernel
theorem dL_law_420 : decode cL_law 420 = .ok (.aload_n 1, 1) := by decide +kernel
theorem dL_law_421 : decode cL_law 421 = .ok (.aload_n 0, 1) := by decide +kernel
theorem dL_law_422 : decode cL_law 422 = .ok (.iload_n 3, 1) := by decide +kernel
theorem dL_law_423 : decode cL_law 423 = .ok (.iconst 1, 1) := by decide +kernel
theorem dL_law_424 : decode cL_law 424 = .ok (.iadd, 1) := by decide +kernel
theorem dL_law_425 : decode cL_law 425 = .ok (.iaload, 1) := by decide +kernel
theorem dL_law_426 : decode cL_law 426 = .ok (.aload_n 0, 1) := by decide +kernel
theorem dL_law_427 : decode cL_law 427 = .ok (.iload_n 3, 1) := by decide +kernel
theorem dL_law_428 : decode cL_law 428 = .ok (.iconst 2, 1) := by decide +kernel
theorem dL_law_429 : decode cL_law 429 = .ok (.iadd, 1) := by decide +kernel
theorem dL_law_430 : decode cL_law 430 = .ok (.iaload, 1) := by decide +kernel
theorem dL_law_431 : decode cL_law 431 = .ok (.aload_n 0, 1) := by decide +kernel
theorem dL_law_432 : decode cL_law 432 = .ok (.iload_n 3, 1) := by decide +kernel
theorem dL_law_433 : decode cL_law 433 = .ok (.iconst 3, 1) := by decide +kernel
theorem dL_law_434 : decode cL_law 434 = .ok (.iadd, 1) := by decide +kernel
theorem dL_law_435 : decode cL_law 435 = .ok (.iaload, 1) := by decide +kernel
theorem dL_law_436 : decode cL_law 436 = .ok (.invokevirtual 49, 3) := by decide +kernel
theorem dL_law_439 : decode cL_law 439 = .ok (.aload_n 2, 1) := by decide +kernel
theorem dL_law_440 : decode cL_law 440 = .ok (.aload_n 0, 1) := by decide +kernel
theorem dL_law_441 : decode cL_law 441 = .ok (.iload_n 3, 1) := by decide +kernel
theorem dL_law_442 : decode cL_law 442 = .ok (.iconst 1, 1) := by decide +kernel
theorem dL_law_443 : decode cL_law 443 = .ok (.iadd, 1) := by decide +kernel
theorem dL_law_444 : decode cL_law 444 = .ok (.iaload, 1) := by decide +kernel
theorem dL_law_445 : decode cL_law 445 = .ok (.aload_n 0, 1) := by decide +kernel
theorem dL_law_446 : decode cL_law 446 = .ok (.iload_n 3, 1) := by decide +kernel
theorem dL_law_447 : decode cL_law 447 = .ok (.iconst 2, 1) := by decide +kernel
theorem dL_law_448 : decode cL_law 448 = .ok (.iadd, 1) := by decide +kernel
theorem dL_law_449 : decode cL_law 449 = .ok (.iaload, 1) := by decide +kernel
theorem dL_law_450 : decode cL_law 450 = .ok (.aload_n 0, 1) := by decide +kernel
theorem dL_law_451 : decode cL_law 451 = .ok (.iload_n 3, 1) := by decide +kernel
theorem dL_law_452 : decode cL_law 452 = .ok (.iconst 3, 1) := by decide +kernel
theorem dL_law_453 : decode cL_law 453 = .ok (.iadd, 1) := by decide +kernel
theorem dL_law_454 : decode cL_law 454 = .ok (.iaload, 1) := by decide +kernel
theorem dL_law_455 : decode cL_law 455 = .ok (.invokevirtual 52, 3) := by decide +kernel
theorem dL_law_458 : decode cL_law 458 = .ok (.if_icmp .eq 626, 3) := by decide +kernel
theorem dL_law_461 : decode cL_law 461 = .ok (.iconst 0, 1) := by decide +kernel
theorem dL_law_462 : decode cL_law 462 = .ok (.ireturn, 1) := by decide +kernel
theorem dL_law_463 : decode cL_law 463 = .ok (.aload_n 1, 1) := by decide +kernel
theorem dL_law_464 : decode cL_law 464 = .ok (.aload_n 0, 1) := by decide +kernel
theorem dL_law_465 : decode cL_law 465 = .ok (.iload_n 3, 1) := by decide +kernel
theorem dL_law_466 : decode cL_law 466 = .ok (.iconst 1, 1) := by decide +kernel
theorem dL_law_467 : decode cL_law 467 = .ok (.iadd, 1) := by decide +kernel
theorem dL_law_468 : decode cL_law 468 = .ok (.iaload, 1) := by decide +kernel
theorem dL_law_469 : decode cL_law 469 = .ok (.aload_n 0, 1) := by decide +kernel
theorem dL_law_470 : decode cL_law 470 = .ok (.iload_n 3, 1) := by decide +kernel
theorem dL_law_471 : decode cL_law 471 = .ok (.iconst 2, 1) := by decide +kernel
theorem dL_law_472 : decode cL_law 472 = .ok (.iadd, 1) := by decide +kernel
theorem dL_law_473 : decode cL_law 473 = .ok (.iaload, 1) := by decide +kernel
theorem dL_law_474 : decode cL_law 474 = .ok (.invokevirtual 53, 3) := by decide +kernel
theorem dL_law_477 : decode cL_law 477 = .ok (.aload_n 2, 1) := by decide +kernel
theorem dL_law_478 : decode cL_law 478 = .ok (.aload_n 0, 1) := by decide +kernel
theorem dL_law_479 : decode cL_law 479 = .ok (.iload_n 3, 1) := by decide +kernel
theorem dL_law_480 : decode cL_law 480 = .ok (.iconst 1, 1) := by decide +kernel
theorem dL_law_481 : decode cL_law 481 = .ok (.iadd, 1) := by decide +kernel
theorem dL_law_482 : decode cL_law 482 = .ok (.iaload, 1) := by decide +kernel
theorem dL_law_483 : decode cL_law 483 = .ok (.aload_n 0, 1) := by decide +kernel
theorem dL_law_484 : decode cL_law 484 = .ok (.iload_n 3, 1) := by decide +kernel
theorem dL_law_485 : decode cL_law 485 = .ok (.iconst 2, 1) := by decide +kernel
theorem dL_law_486 : decode cL_law 486 = .ok (.iadd, 1) := by decide +kernel
theorem dL_law_487 : decode cL_law 487 = .ok (.iaload, 1) := by decide +kernel
theorem dL_law_488 : decode cL_law 488 = .ok (.invokevirtual 56, 3) := by decide +kernel
theorem dL_law_491 : decode cL_law 491 = .ok (.if_icmp .eq 593, 3) := by decide +kernel
theorem dL_law_494 : decode cL_law 494 = .ok (.iconst 0, 1) := by decide +kernel
theorem dL_law_495 : decode cL_law 495 = .ok (.ireturn, 1) := by decide +kernel
theorem dL_law_496 : decode cL_law 496 = .ok (.aload_n 1, 1) := by decide +kernel
theorem dL_law_497 : decode cL_law 497 = .ok (.aload_n 0, 1) := by decide +kernel
theorem dL_law_498 : decode cL_law 498 = .ok (.iload_n 3, 1) := by decide +kernel
theorem dL_law_499 : decode cL_law 499 = .ok (.iconst 1, 1) := by decide +kernel
theorem dL_law_500 : decode cL_law 500 = .ok (.iadd, 1) := by decide +kernel
theorem dL_law_501 : decode cL_law 501 = .ok (.iaload, 1) := by decide +kernel
theorem dL_law_502 : decode cL_law 502 = .ok (.aload_n 0, 1) := by decide +kernel
theorem dL_law_503 : decode cL_law 503 = .ok (.iload_n 3, 1) := by decide +kernel
theorem dL_law_504 : decode cL_law 504 = .ok (.iconst 2, 1) := by decide +kernel
theorem dL_law_505 : decode cL_law 505 = .ok (.iadd, 1) := by decide +kernel
theorem dL_law_506 : decode cL_law 506 = .ok (.iaload, 1) := by decide +kernel
theorem dL_law_507 : decode cL_law 507 = .ok (.aload_n 0, 1) := by decide +kernel
theorem dL_law_508 : decode cL_law 508 = .ok (.iload_n 3, 1) := by decide +kernel
theorem dL_law_509 : decode cL_law 509 = .ok (.iconst 3, 1) := by decide +kernel
theorem dL_law_510 : decode cL_law 510 = .ok (.iadd, 1) := by decide +kernel
theorem dL_law_511 : decode cL_law 511 = .ok (.iaload, 1) := by decide +kernel
theorem dL_law_512 : decode cL_law 512 = .ok (.invokevirtual 57, 3) := by decide +kernel
theorem dL_law_515 : decode cL_law 515 = .ok (.aload_n 2, 1) := by decide +kernel
theorem dL_law_516 : decode cL_law 516 = .ok (.aload_n 0, 1) := by decide +kernel
theorem dL_law_517 : decode cL_law 517 = .ok (.iload_n 3, 1) := by decide +kernel
theorem dL_law_518 : decode cL_law 518 = .ok (.iconst 1, 1) := by decide +kernel
theorem dL_law_519 : decode cL_law 519 = .ok (.iadd, 1) := by decide +kernel
theorem dL_law_520 : decode cL_law 520 = .ok (.iaload, 1) := by decide +kernel
theorem dL_law_521 : decode cL_law 521 = .ok (.aload_n 0, 1) := by decide +kernel
theorem dL_law_522 : decode cL_law 522 = .ok (.iload_n 3, 1) := by decide +kernel
theorem dL_law_523 : decode cL_law 523 = .ok (.iconst 2, 1) := by decide +kernel
theorem dL_law_524 : decode cL_law 524 = .ok (.iadd, 1) := by decide +kernel
theorem dL_law_525 : decode cL_law 525 = .ok (.iaload, 1) := by decide +kernel
theorem dL_law_526 : decode cL_law 526 = .ok (.aload_n 0, 1) := by decide +kernel
theorem dL_law_527 : decode cL_law 527 = .ok (.iload_n 3, 1) := by decide +kernel
theorem dL_law_528 : decode cL_law 528 = .ok (.iconst 3, 1) := by decide +kernel
theorem dL_law_529 : decode cL_law 529 = .ok (.iadd, 1) := by decide +kernel
theorem dL_law_530 : decode cL_law 530 = .ok (.iaload, 1) := by decide +kernel
theorem dL_law_531 : decode cL_law 531 = .ok (.invokevirtual 61, 3) := by decide +kernel
theorem dL_law_534 : decode cL_law 534 = .ok (.lcmp, 1) := by decide +kernel
theorem dL_law_535 : decode cL_law 535 = .ok (.ifCond .eq 549, 3) := by decide +kernel
theorem dL_law_538 : decode cL_law 538 = .ok (.iconst 0, 1) := by decide +kernel
theorem dL_law_539 : decode cL_law 539 = .ok (.ireturn, 1) := by decide +kernel
theorem dL_law_540 : decode cL_law 540 = .ok (.aload_n 1, 1) := by decide +kernel
theorem dL_law_541 : decode cL_law 541 = .ok (.aload_n 0, 1) := by decide +kernel
theorem dL_law_542 : decode cL_law 542 = .ok (.iload_n 3, 1) := by decide +kernel
theorem dL_law_543 : decode cL_law 543 = .ok (.iconst 1, 1) := by decide +kernel
theorem dL_law_544 : decode cL_law 544 = .ok (.iadd, 1) := by decide +kernel
theorem dL_law_545 : decode cL_law 545 = .ok (.iaload, 1) := by decide +kernel
theorem dL_law_546 : decode cL_law 546 = .ok (.invokevirtual 62, 3) := by decide +kernel
theorem dL_law_549 : decode cL_law 549 = .ok (.aload_n 2, 1) := by decide +kernel
theorem dL_law_550 : decode cL_law 550 = .ok (.aload_n 0, 1) := by decide +kernel
theorem dL_law_551 : decode cL_law 551 = .ok (.iload_n 3, 1) := by decide +kernel
theorem dL_law_552 : decode cL_law 552 = .ok (.iconst 1, 1) := by decide +kernel
theorem dL_law_553 : decode cL_law 553 = .ok (.iadd, 1) := by decide +kernel
theorem dL_law_554 : decode cL_law 554 = .ok (.iaload, 1) := by decide +kernel
theorem dL_law_555 : decode cL_law 555 = .ok (.invokevirtual 65, 3) := by decide +kernel
theorem dL_law_558 : decode cL_law 558 = .ok (.if_icmp .eq 526, 3) := by decide +kernel
theorem dL_law_561 : decode cL_law 561 = .ok (.iconst 0, 1) := by decide +kernel
theorem dL_law_562 : decode cL_law 562 = .ok (.ireturn, 1) := by decide +kernel
theorem dL_law_563 : decode cL_law 563 = .ok (.aload_n 1, 1) := by decide +kernel
theorem dL_law_564 : decode cL_law 564 = .ok (.aload_n 0, 1) := by decide +kernel
theorem dL_law_565 : decode cL_law 565 = .ok (.iload_n 3, 1) := by decide +kernel
theorem dL_law_566 : decode cL_law 566 = .ok (.iconst 1, 1) := by decide +kernel
theorem dL_law_567 : decode cL_law 567 = .ok (.iadd, 1) := by decide +kernel
theorem dL_law_568 : decode cL_law 568 = .ok (.iaload, 1) := by decide +kernel
theorem dL_law_569 : decode cL_law 569 = .ok (.invokevirtual 66, 3) := by decide +kernel
theorem dL_law_572 : decode cL_law 572 = .ok (.aload_n 2, 1) := by decide +kernel
theorem dL_law_573 : decode cL_law 573 = .ok (.aload_n 0, 1) := by decide +kernel
theorem dL_law_574 : decode cL_law 574 = .ok (.iload_n 3, 1) := by decide +kernel
theorem dL_law_575 : decode cL_law 575 = .ok (.iconst 1, 1) := by decide +kernel
theorem dL_law_576 : decode cL_law 576 = .ok (.iadd, 1) := by decide +kernel
theorem dL_law_577 : decode cL_law 577 = .ok (.iaload, 1) := by decide +kernel
theorem dL_law_578 : decode cL_law 578 = .ok (.invokevirtual 69, 3) := by decide +kernel
theorem dL_law_581 : decode cL_law 581 = .ok (.if_icmp .eq 503, 3) := by decide +kernel
theorem dL_law_584 : decode cL_law 584 = .ok (.iconst 0, 1) := by decide +kernel
theorem dL_law_585 : decode cL_law 585 = .ok (.ireturn, 1) := by decide +kernel
theorem dL_law_586 : decode cL_law 586 = .ok (.aload_n 1, 1) := by decide +kernel
theorem dL_law_587 : decode cL_law 587 = .ok (.aload_n 0, 1) := by decide +kernel
theorem dL_law_588 : decode cL_law 588 = .ok (.iload_n 3, 1) := by decide +kernel
theorem dL_law_589 : decode cL_law 589 = .ok (.iconst 1, 1) := by decide +kernel
theorem dL_law_590 : decode cL_law 590 = .ok (.iadd, 1) := by decide +kernel
theorem dL_law_591 : decode cL_law 591 = .ok (.iaload, 1) := by decide +kernel
theorem dL_law_592 : decode cL_law 592 = .ok (.aload_n 0, 1) := by decide +kernel
theorem dL_law_593 : decode cL_law 593 = .ok (.iload_n 3, 1) := by decide +kernel
theorem dL_law_594 : decode cL_law 594 = .ok (.iconst 2, 1) := by decide +kernel
theorem dL_law_595 : decode cL_law 595 = .ok (.iadd, 1) := by decide +kernel
theorem dL_law_596 : decode cL_law 596 = .ok (.iaload, 1) := by decide +kernel
theorem dL_law_597 : decode cL_law 597 = .ok (.invokevirtual 70, 3) := by decide +kernel
theorem dL_law_600 : decode cL_law 600 = .ok (.aload_n 2, 1) := by decide +kernel
theorem dL_law_601 : decode cL_law 601 = .ok (.aload_n 0, 1) := by decide +kernel
theorem dL_law_602 : decode cL_law 602 = .ok (.iload_n 3, 1) := by decide +kernel
theorem dL_law_603 : decode cL_law 603 = .ok (.iconst 1, 1) := by decide +kernel
theorem dL_law_604 : decode cL_law 604 = .ok (.iadd, 1) := by decide +kernel
theorem dL_law_605 : decode cL_law 605 = .ok (.iaload, 1) := by decide +kernel
theorem dL_law_606 : decode cL_law 606 = .ok (.aload_n 0, 1) := by decide +kernel
theorem dL_law_607 : decode cL_law 607 = .ok (.iload_n 3, 1) := by decide +kernel
theorem dL_law_608 : decode cL_law 608 = .ok (.iconst 2, 1) := by decide +kernel
theorem dL_law_609 : decode cL_law 609 = .ok (.iadd, 1) := by decide +kernel
theorem dL_law_610 : decode cL_law 610 = .ok (.iaload, 1) := by decide +kernel
theorem dL_law_611 : decode cL_law 611 = .ok (.invokevirtual 73, 3) := by decide +kernel
theorem dL_law_614 : decode cL_law 614 = .ok (.if_icmp .eq 470, 3) := by decide +kernel
theorem dL_law_617 : decode cL_law 617 = .ok (.iconst 0, 1) := by decide +kernel
theorem dL_law_618 : decode cL_law 618 = .ok (.ireturn, 1) := by decide +kernel
theorem dL_law_619 : decode cL_law 619 = .ok (.aload_n 1, 1) := by decide +kernel
theorem dL_law_620 : decode cL_law 620 = .ok (.invokevirtual 74, 3) := by decide +kernel
theorem dL_law_623 : decode cL_law 623 = .ok (.aload_n 2, 1) := by decide +kernel
theorem dL_law_624 : decode cL_law 624 = .ok (.invokevirtual 77, 3) := by decide +kernel
theorem dL_law_627 : decode cL_law 627 = .ok (.if_icmp .eq 457, 3) := by decide +kernel
theorem dL_law_630 : decode cL_law 630 = .ok (.iconst 0, 1) := by decide +kernel
theorem dL_law_631 : decode cL_law 631 = .ok (.ireturn, 1) := by decide +kernel
theorem dL_law_632 : decode cL_law 632 = .ok (.aload_n 1, 1) := by decide +kernel
theorem dL_law_633 : decode cL_law 633 = .ok (.aload_n 0, 1) := by decide +kernel
theorem dL_law_634 : decode cL_law 634 = .ok (.iload_n 3, 1) := by decide +kernel
theorem dL_law_635 : decode cL_law 635 = .ok (.iconst 1, 1) := by decide +kernel
theorem dL_law_636 : decode cL_law 636 = .ok (.iadd, 1) := by decide +kernel
theorem dL_law_637 : decode cL_law 637 = .ok (.iaload, 1) := by decide +kernel
theorem dL_law_638 : decode cL_law 638 = .ok (.invokevirtual 78, 3) := by decide +kernel
theorem dL_law_641 : decode cL_law 641 = .ok (.aload_n 2, 1) := by decide +kernel
theorem dL_law_642 : decode cL_law 642 = .ok (.aload_n 0, 1) := by decide +kernel
theorem dL_law_643 : decode cL_law 643 = .ok (.iload_n 3, 1) := by decide +kernel
theorem dL_law_644 : decode cL_law 644 = .ok (.iconst 1, 1) := by decide +kernel
theorem dL_law_645 : decode cL_law 645 = .ok (.iadd, 1) := by decide +kernel
theorem dL_law_646 : decode cL_law 646 = .ok (.iaload, 1) := by decide +kernel
theorem dL_law_647 : decode cL_law 647 = .ok (.invokevirtual 81, 3) := by decide +kernel
theorem dL_law_650 : decode cL_law 650 = .ok (.if_icmp .eq 434, 3) := by decide +kernel
theorem dL_law_653 : decode cL_law 653 = .ok (.iconst 0, 1) := by decide +kernel
theorem dL_law_654 : decode cL_law 654 = .ok (.ireturn, 1) := by decide +kernel
theorem dL_law_655 : decode cL_law 655 = .ok (.aload_n 1, 1) := by decide +kernel
theorem dL_law_656 : decode cL_law 656 = .ok (.aload_n 0, 1) := by decide +kernel
theorem dL_law_657 : decode cL_law 657 = .ok (.iload_n 3, 1) := by decide +kernel
theorem dL_law_658 : decode cL_law 658 = .ok (.iconst 1, 1) := by decide +kernel
theorem dL_law_659 : decode cL_law 659 = .ok (.iadd, 1) := by decide +kernel
theorem dL_law_660 : decode cL_law 660 = .ok (.iaload, 1) := by decide +kernel
theorem dL_law_661 : decode cL_law 661 = .ok (.aload_n 0, 1) := by decide +kernel
theorem dL_law_662 : decode cL_law 662 = .ok (.iload_n 3, 1) := by decide +kernel
theorem dL_law_663 : decode cL_law 663 = .ok (.iconst 2, 1) := by decide +kernel
theorem dL_law_664 : decode cL_law 664 = .ok (.iadd, 1) := by decide +kernel
theorem dL_law_665 : decode cL_law 665 = .ok (.iaload, 1) := by decide +kernel
theorem dL_law_666 : decode cL_law 666 = .ok (.invokevirtual 82, 3) := by decide +kernel
theorem dL_law_669 : decode cL_law 669 = .ok (.aload_n 2, 1) := by decide +kernel
theorem dL_law_670 : decode cL_law 670 = .ok (.aload_n 0, 1) := by decide +kernel
theorem dL_law_671 : decode cL_law 671 = .ok (.iload_n 3, 1) := by decide +kernel
theorem dL_law_672 : decode cL_law 672 = .ok (.iconst 1, 1) := by decide +kernel
theorem dL_law_673 : decode cL_law 673 = .ok (.iadd, 1) := by decide +kernel
theorem dL_law_674 : decode cL_law 674 = .ok (.iaload, 1) := by decide +kernel
theorem dL_law_675 : decode cL_law 675 = .ok (.aload_n 0, 1) := by decide +kernel
theorem dL_law_676 : decode cL_law 676 = .ok (.iload_n 3, 1) := by decide +kernel
theorem dL_law_677 : decode cL_law 677 = .ok (.iconst 2, 1) := by decide +kernel
theorem dL_law_678 : decode cL_law 678 = .ok (.iadd, 1) := by decide +kernel
theorem dL_law_679 : decode cL_law 679 = .ok (.iaload, 1) := by decide +kernel
theorem dL_law_680 : decode cL_law 680 = .ok (.invokevirtual 85, 3) := by decide +kernel
theorem dL_law_683 : decode cL_law 683 = .ok (.if_icmp .eq 401, 3) := by decide +kernel
theorem dL_law_686 : decode cL_law 686 = .ok (.iconst 0, 1) := by decide +kernel
theorem dL_law_687 : decode cL_law 687 = .ok (.ireturn, 1) := by decide +kernel
theorem dL_law_688 : decode cL_law 688 = .ok (.aload_n 1, 1) := by decide +kernel
theorem dL_law_689 : decode cL_law 689 = .ok (.aload_n 0, 1) := by decide +kernel
theorem dL_law_690 : decode cL_law 690 = .ok (.iload_n 3, 1) := by decide +kernel
theorem dL_law_691 : decode cL_law 691 = .ok (.iconst 1, 1) := by decide +kernel
theorem dL_law_692 : decode cL_law 692 = .ok (.iadd, 1) := by decide +kernel
theorem dL_law_693 : decode cL_law 693 = .ok (.iaload, 1) := by decide +kernel
theorem dL_law_694 : decode cL_law 694 = .ok (.invokevirtual 86, 3) := by decide +kernel
theorem dL_law_697 : decode cL_law 697 = .ok (.aload_n 2, 1) := by decide +kernel
theorem dL_law_698 : decode cL_law 698 = .ok (.aload_n 0, 1) := by decide +kernel
theorem dL_law_699 : decode cL_law 699 = .ok (.iload_n 3, 1) := by decide +kernel
theorem dL_law_700 : decode cL_law 700 = .ok (.iconst 1, 1) := by decide +kernel
theorem dL_law_701 : decode cL_law 701 = .ok (.iadd, 1) := by decide +kernel
theorem dL_law_702 : decode cL_law 702 = .ok (.iaload, 1) := by decide +kernel
theorem dL_law_703 : decode cL_law 703 = .ok (.invokevirtual 89, 3) := by decide +kernel
theorem dL_law_706 : decode cL_law 706 = .ok (.if_icmp .eq 378, 3) := by decide +kernel
theorem dL_law_709 : decode cL_law 709 = .ok (.iconst 0, 1) := by decide +kernel
theorem dL_law_710 : decode cL_law 710 = .ok (.ireturn, 1) := by decide +kernel
theorem dL_law_711 : decode cL_law 711 = .ok (.aload_n 1, 1) := by decide +kernel
theorem dL_law_712 : decode cL_law 712 = .ok (.invokevirtual 90, 3) := by decide +kernel
theorem dL_law_715 : decode cL_law 715 = .ok (.aload_n 2, 1) := by decide +kernel
theorem dL_law_716 : decode cL_law 716 = .ok (.invokevirtual 93, 3) := by decide +kernel
theorem dL_law_719 : decode cL_law 719 = .ok (.if_icmp .eq 365, 3) := by decide +kernel
theorem dL_law_722 : decode cL_law 722 = .ok (.iconst 0, 1) := by decide +kernel
theorem dL_law_723 : decode cL_law 723 = .ok (.ireturn, 1) := by decide +kernel
theorem dL_law_724 : decode cL_law 724 = .ok (.aload_n 1, 1) := by decide +kernel
theorem dL_law_725 : decode cL_law 725 = .ok (.aload_n 0, 1) := by decide +kernel
theorem dL_law_726 : decode cL_law 726 = .ok (.iload_n 3, 1) := by decide +kernel
theorem dL_law_727 : decode cL_law 727 = .ok (.iconst 1, 1) := by decide +kernel
theorem dL_law_728 : decode cL_law 728 = .ok (.iadd, 1) := by decide +kernel
theorem dL_law_729 : decode cL_law 729 = .ok (.iaload, 1) := by decide +kernel
theorem dL_law_730 : decode cL_law 730 = .ok (.invokevirtual 94, 3) := by decide +kernel
theorem dL_law_733 : decode cL_law 733 = .ok (.aload_n 2, 1) := by decide +kernel
theorem dL_law_734 : decode cL_law 734 = .ok (.aload_n 0, 1) := by decide +kernel
theorem dL_law_735 : decode cL_law 735 = .ok (.iload_n 3, 1) := by decide +kernel
theorem dL_law_736 : decode cL_law 736 = .ok (.iconst 1, 1) := by decide +kernel
theorem dL_law_737 : decode cL_law 737 = .ok (.iadd, 1) := by decide +kernel
theorem dL_law_738 : decode cL_law 738 = .ok (.iaload, 1) := by decide +kernel
theorem dL_law_739 : decode cL_law 739 = .ok (.invokevirtual 97, 3) := by decide +kernel
theorem dL_law_742 : decode cL_law 742 = .ok (.if_icmp .eq 342, 3) := by decide +kernel
theorem dL_law_745 : decode cL_law 745 = .ok (.iconst 0, 1) := by decide +kernel
theorem dL_law_746 : decode cL_law 746 = .ok (.ireturn, 1) := by decide +kernel
theorem dL_law_747 : decode cL_law 747 = .ok (.aload_n 1, 1) := by decide +kernel
theorem dL_law_748 : decode cL_law 748 = .ok (.aload_n 0, 1) := by decide +kernel
theorem dL_law_749 : decode cL_law 749 = .ok (.iload_n 3, 1) := by decide +kernel
theorem dL_law_750 : decode cL_law 750 = .ok (.iconst 1, 1) := by decide +kernel
theorem dL_law_751 : decode cL_law 751 = .ok (.iadd, 1) := by decide +kernel
theorem dL_law_752 : decode cL_law 752 = .ok (.iaload, 1) := by decide +kernel
theorem dL_law_753 : decode cL_law 753 = .ok (.invokevirtual 98, 3) := by decide +kernel
theorem dL_law_756 : decode cL_law 756 = .ok (.aload_n 2, 1) := by decide +kernel
theorem dL_law_757 : decode cL_law 757 = .ok (.aload_n 0, 1) := by decide +kernel
theorem dL_law_758 : decode cL_law 758 = .ok (.iload_n 3, 1) := by decide +kernel
theorem dL_law_759 : decode cL_law 759 = .ok (.iconst 1, 1) := by decide +kernel
theorem dL_law_760 : decode cL_law 760 = .ok (.iadd, 1) := by decide +kernel
theorem dL_law_761 : decode cL_law 761 = .ok (.iaload, 1) := by decide +kernel
theorem dL_law_762 : decode cL_law 762 = .ok (.invokevirtual 101, 3) := by decide +kernel
theorem dL_law_765 : decode cL_law 765 = .ok (.if_icmp .eq 319, 3) := by decide +kernel
theorem dL_law_768 : decode cL_law 768 = .ok (.iconst 0, 1) := by decide +kernel
theorem dL_law_769 : decode cL_law 769 = .ok (.ireturn, 1) := by decide +kernel
theorem dL_law_770 : decode cL_law 770 = .ok (.aload_n 1, 1) := by decide +kernel
theorem dL_law_771 : decode cL_law 771 = .ok (.aload_n 0, 1) := by decide +kernel
theorem dL_law_772 : decode cL_law 772 = .ok (.iload_n 3, 1) := by decide +kernel
theorem dL_law_773 : decode cL_law 773 = .ok (.iconst 1, 1) := by decide +kernel
theorem dL_law_774 : decode cL_law 774 = .ok (.iadd, 1) := by decide +kernel
theorem dL_law_775 : decode cL_law 775 = .ok (.iaload, 1) := by decide +kernel
theorem dL_law_776 : decode cL_law 776 = .ok (.invokevirtual 102, 3) := by decide +kernel
theorem dL_law_779 : decode cL_law 779 = .ok (.aload_n 2, 1) := by decide +kernel
theorem dL_law_780 : decode cL_law 780 = .ok (.aload_n 0, 1) := by decide +kernel
theorem dL_law_781 : decode cL_law 781 = .ok (.iload_n 3, 1) := by decide +kernel
theorem dL_law_782 : decode cL_law 782 = .ok (.iconst 1, 1) := by decide +kernel
theorem dL_law_783 : decode cL_law 783 = .ok (.iadd, 1) := by decide +kernel
theorem dL_law_784 : decode cL_law 784 = .ok (.iaload, 1) := by decide +kernel
theorem dL_law_785 : decode cL_law 785 = .ok (.invokevirtual 105, 3) := by decide +kernel
theorem dL_law_788 : decode cL_law 788 = .ok (.if_icmp .eq 296, 3) := by decide +kernel
theorem dL_law_791 : decode cL_law 791 = .ok (.iconst 0, 1) := by decide +kernel
theorem dL_law_792 : decode cL_law 792 = .ok (.ireturn, 1) := by decide +kernel
theorem dL_law_793 : decode cL_law 793 = .ok (.aload_n 1, 1) := by decide +kernel
theorem dL_law_794 : decode cL_law 794 = .ok (.aload_n 0, 1) := by decide +kernel
theorem dL_law_795 : decode cL_law 795 = .ok (.iload_n 3, 1) := by decide +kernel
theorem dL_law_796 : decode cL_law 796 = .ok (.iconst 1, 1) := by decide +kernel
theorem dL_law_797 : decode cL_law 797 = .ok (.iadd, 1) := by decide +kernel
theorem dL_law_798 : decode cL_law 798 = .ok (.iaload, 1) := by decide +kernel
theorem dL_law_799 : decode cL_law 799 = .ok (.aload_n 0, 1) := by decide +kernel
theorem dL_law_800 : decode cL_law 800 = .ok (.iload_n 3, 1) := by decide +kernel
theorem dL_law_801 : decode cL_law 801 = .ok (.iconst 2, 1) := by decide +kernel
theorem dL_law_802 : decode cL_law 802 = .ok (.iadd, 1) := by decide +kernel
theorem dL_law_803 : decode cL_law 803 = .ok (.iaload, 1) := by decide +kernel
theorem dL_law_804 : decode cL_law 804 = .ok (.invokevirtual 106, 3) := by decide +kernel
theorem dL_law_807 : decode cL_law 807 = .ok (.aload_n 2, 1) := by decide +kernel
theorem dL_law_808 : decode cL_law 808 = .ok (.aload_n 0, 1) := by decide +kernel
theorem dL_law_809 : decode cL_law 809 = .ok (.iload_n 3, 1) := by decide +kernel
theorem dL_law_810 : decode cL_law 810 = .ok (.iconst 1, 1) := by decide +kernel
theorem dL_law_811 : decode cL_law 811 = .ok (.iadd, 1) := by decide +kernel
theorem dL_law_812 : decode cL_law 812 = .ok (.iaload, 1) := by decide +kernel
theorem dL_law_813 : decode cL_law 813 = .ok (.aload_n 0, 1) := by decide +kernel
theorem dL_law_814 : decode cL_law 814 = .ok (.iload_n 3, 1) := by decide +kernel
theorem dL_law_815 : decode cL_law 815 = .ok (.iconst 2, 1) := by decide +kernel
theorem dL_law_816 : decode cL_law 816 = .ok (.iadd, 1) := by decide +kernel
theorem dL_law_817 : decode cL_law 817 = .ok (.iaload, 1) := by decide +kernel
theorem dL_law_818 : decode cL_law 818 = .ok (.invokevirtual 109, 3) := by decide +kernel
theorem dL_law_821 : decode cL_law 821 = .ok (.if_icmp .eq 263, 3) := by decide +kernel
theorem dL_law_824 : decode cL_law 824 = .ok (.iconst 0, 1) := by decide +kernel
theorem dL_law_825 : decode cL_law 825 = .ok (.ireturn, 1) := by decide +kernel
theorem dL_law_826 : decode cL_law 826 = .ok (.aload_n 1, 1) := by decide +kernel
theorem dL_law_827 : decode cL_law 827 = .ok (.aload_n 0, 1) := by decide +kernel
theorem dL_law_828 : decode cL_law 828 = .ok (.iload_n 3, 1) := by decide +kernel
theorem dL_law_829 : decode cL_law 829 = .ok (.iconst 1, 1) := by decide +kernel
theorem dL_law_830 : decode cL_law 830 = .ok (.iadd, 1) := by decide +kernel
theorem dL_law_831 : decode cL_law 831 = .ok (.iaload, 1) := by decide +kernel
theorem dL_law_832 : decode cL_law 832 = .ok (.invokevirtual 110, 3) := by decide +kernel
theorem dL_law_835 : decode cL_law 835 = .ok (.aload_n 2, 1) := by decide +kernel
theorem dL_law_836 : decode cL_law 836 = .ok (.aload_n 0, 1) := by decide +kernel
theorem dL_law_837 : decode cL_law 837 = .ok (.iload_n 3, 1) := by decide +kernel
theorem dL_law_838 : decode cL_law 838 = .ok (.iconst 1, 1) := by decide +kernel
theorem dL_law_839 : decode cL_law 839 = .ok (.iadd, 1) := by decide +kernel
theorem dL_law_840 : decode cL_law 840 = .ok (.iaload, 1) := by decide +kernel
theorem dL_law_841 : decode cL_law 841 = .ok (.invokevirtual 113, 3) := by decide +kernel
theorem dL_law_844 : decode cL_law 844 = .ok (.if_icmp .eq 240, 3) := by decide +kernel
theorem dL_law_847 : decode cL_law 847 = .ok (.iconst 0, 1) := by decide +kernel
theorem dL_law_848 : decode cL_law 848 = .ok (.ireturn, 1) := by decide +kernel
theorem dL_law_849 : decode cL_law 849 = .ok (.aload_n 1, 1) := by decide +kernel
theorem dL_law_850 : decode cL_law 850 = .ok (.aload_n 0, 1) := by decide +kernel
theorem dL_law_851 : decode cL_law 851 = .ok (.iload_n 3, 1) := by decide +kernel
theorem dL_law_852 : decode cL_law 852 = .ok (.iconst 1, 1) := by decide +kernel
theorem dL_law_853 : decode cL_law 853 = .ok (.iadd, 1) := by decide +kernel
theorem dL_law_854 : decode cL_law 854 = .ok (.iaload, 1) := by decide +kernel
theorem dL_law_855 : decode cL_law 855 = .ok (.invokevirtual 114, 3) := by decide +kernel
theorem dL_law_858 : decode cL_law 858 = .ok (.aload_n 2, 1) := by decide +kernel
theorem dL_law_859 : decode cL_law 859 = .ok (.aload_n 0, 1) := by decide +kernel
theorem dL_law_860 : decode cL_law 860 = .ok (.iload_n 3, 1) := by decide +kernel
theorem dL_law_861 : decode cL_law 861 = .ok (.iconst 1, 1) := by decide +kernel
theorem dL_law_862 : decode cL_law 862 = .ok (.iadd, 1) := by decide +kernel
theorem dL_law_863 : decode cL_law 863 = .ok (.iaload, 1) := by decide +kernel
theorem dL_law_864 : decode cL_law 864 = .ok (.invokevirtual 117, 3) := by decide +kernel
theorem dL_law_867 : decode cL_law 867 = .ok (.if_icmp .eq 217, 3) := by decide +kernel
theorem dL_law_870 : decode cL_law 870 = .ok (.iconst 0, 1) := by decide +kernel
theorem dL_law_871 : decode cL_law 871 = .ok (.ireturn, 1) := by decide +kernel
theorem dL_law_872 : decode cL_law 872 = .ok (.aload_n 1, 1) := by decide +kernel
theorem dL_law_873 : decode cL_law 873 = .ok (.aload_n 0, 1) := by decide +kernel
theorem dL_law_874 : decode cL_law 874 = .ok (.iload_n 3, 1) := by decide +kernel
theorem dL_law_875 : decode cL_law 875 = .ok (.iconst 1, 1) := by decide +kernel
theorem dL_law_876 : decode cL_law 876 = .ok (.iadd, 1) := by decide +kernel
theorem dL_law_877 : decode cL_law 877 = .ok (.iaload, 1) := by decide +kernel
theorem dL_law_878 : decode cL_law 878 = .ok (.aload_n 0, 1) := by decide +kernel
theorem dL_law_879 : decode cL_law 879 = .ok (.iload_n 3, 1) := by decide +kernel
theorem dL_law_880 : decode cL_law 880 = .ok (.iconst 2, 1) := by decide +kernel
theorem dL_law_881 : decode cL_law 881 = .ok (.iadd, 1) := by decide +kernel
theorem dL_law_882 : decode cL_law 882 = .ok (.iaload, 1) := by decide +kernel
theorem dL_law_883 : decode cL_law 883 = .ok (.invokevirtual 118, 3) := by decide +kernel
theorem dL_law_886 : decode cL_law 886 = .ok (.aload_n 2, 1) := by decide +kernel
theorem dL_law_887 : decode cL_law 887 = .ok (.aload_n 0, 1) := by decide +kernel
theorem dL_law_888 : decode cL_law 888 = .ok (.iload_n 3, 1) := by decide +kernel
theorem dL_law_889 : decode cL_law 889 = .ok (.iconst 1, 1) := by decide +kernel
theorem dL_law_890 : decode cL_law 890 = .ok (.iadd, 1) := by decide +kernel
theorem dL_law_891 : decode cL_law 891 = .ok (.iaload, 1) := by decide +kernel
theorem dL_law_892 : decode cL_law 892 = .ok (.aload_n 0, 1) := by decide +kernel
theorem dL_law_893 : decode cL_law 893 = .ok (.iload_n 3, 1) := by decide +kernel
theorem dL_law_894 : decode cL_law 894 = .ok (.iconst 2, 1) := by decide +kernel
theorem dL_law_895 : decode cL_law 895 = .ok (.iadd, 1) := by decide +kernel
theorem dL_law_896 : decode cL_law 896 = .ok (.iaload, 1) := by decide +kernel
theorem dL_law_897 : decode cL_law 897 = .ok (.invokevirtual 121, 3) := by decide +kernel
theorem dL_law_900 : decode cL_law 900 = .ok (.if_icmp .eq 184, 3) := by decide +kernel
theorem dL_law_903 : decode cL_law 903 = .ok (.iconst 0, 1) := by decide +kernel
theorem dL_law_904 : decode cL_law 904 = .ok (.ireturn, 1) := by decide +kernel
theorem dL_law_905 : decode cL_law 905 = .ok (.aload_n 1, 1) := by decide +kernel
theorem dL_law_906 : decode cL_law 906 = .ok (.aload_n 0, 1) := by decide +kernel
theorem dL_law_907 : decode cL_law 907 = .ok (.iload_n 3, 1) := by decide +kernel
theorem dL_law_908 : decode cL_law 908 = .ok (.iconst 1, 1) := by decide +kernel
theorem dL_law_909 : decode cL_law 909 = .ok (.iadd, 1) := by decide +kernel
theorem dL_law_910 : decode cL_law 910 = .ok (.iaload, 1) := by decide +kernel
theorem dL_law_911 : decode cL_law 911 = .ok (.invokevirtual 122, 3) := by decide +kernel
theorem dL_law_914 : decode cL_law 914 = .ok (.aload_n 2, 1) := by decide +kernel
theorem dL_law_915 : decode cL_law 915 = .ok (.aload_n 0, 1) := by decide +kernel
theorem dL_law_916 : decode cL_law 916 = .ok (.iload_n 3, 1) := by decide +kernel
theorem dL_law_917 : decode cL_law 917 = .ok (.iconst 1, 1) := by decide +kernel
theorem dL_law_918 : decode cL_law 918 = .ok (.iadd, 1) := by decide +kernel
theorem dL_law_919 : decode cL_law 919 = .ok (.iaload, 1) := by decide +kernel
theorem dL_law_920 : decode cL_law 920 = .ok (.invokevirtual 125, 3) := by decide +kernel
theorem dL_law_923 : decode cL_law 923 = .ok (.if_icmp .eq 161, 3) := by decide +kernel
theorem dL_law_926 : decode cL_law 926 = .ok (.iconst 0, 1) := by decide +kernel
theorem dL_law_927 : decode cL_law 927 = .ok (.ireturn, 1) := by decide +kernel
theorem dL_law_928 : decode cL_law 928 = .ok (.aload_n 1, 1) := by decide +kernel
theorem dL_law_929 : decode cL_law 929 = .ok (.aload_n 0, 1) := by decide +kernel
theorem dL_law_930 : decode cL_law 930 = .ok (.iload_n 3, 1) := by decide +kernel
theorem dL_law_931 : decode cL_law 931 = .ok (.iconst 1, 1) := by decide +kernel
theorem dL_law_932 : decode cL_law 932 = .ok (.iadd, 1) := by decide +kernel
theorem dL_law_933 : decode cL_law 933 = .ok (.iaload, 1) := by decide +kernel
theorem dL_law_934 : decode cL_law 934 = .ok (.aload_n 0, 1) := by decide +kernel
theorem dL_law_935 : decode cL_law 935 = .ok (.iload_n 3, 1) := by decide +kernel
theorem dL_law_936 : decode cL_law 936 = .ok (.iconst 2, 1) := by decide +kernel
theorem dL_law_937 : decode cL_law 937 = .ok (.iadd, 1) := by decide +kernel
theorem dL_law_938 : decode cL_law 938 = .ok (.iaload, 1) := by decide +kernel
theorem dL_law_939 : decode cL_law 939 = .ok (.aload_n 0, 1) := by decide +kernel
theorem dL_law_940 : decode cL_law 940 = .ok (.iload_n 3, 1) := by decide +kernel
theorem dL_law_941 : decode cL_law 941 = .ok (.iconst 3, 1) := by decide +kernel
theorem dL_law_942 : decode cL_law 942 = .ok (.iadd, 1) := by decide +kernel
theorem dL_law_943 : decode cL_law 943 = .ok (.iaload, 1) := by decide +kernel
theorem dL_law_944 : decode cL_law 944 = .ok (.aload_n 0, 1) := by decide +kernel
theorem dL_law_945 : decode cL_law 945 = .ok (.iload_n 3, 1) := by decide +kernel
theorem dL_law_946 : decode cL_law 946 = .ok (.iconst 4, 1) := by decide +kernel
theorem dL_law_947 : decode cL_law 947 = .ok (.iadd, 1) := by decide +kernel
theorem dL_law_948 : decode cL_law 948 = .ok (.iaload, 1) := by decide +kernel
theorem dL_law_949 : decode cL_law 949 = .ok (.aload_n 0, 1) := by decide +kernel
theorem dL_law_950 : decode cL_law 950 = .ok (.iload_n 3, 1) := by decide +kernel
theorem dL_law_951 : decode cL_law 951 = .ok (.iconst 5, 1) := by decide +kernel
theorem dL_law_952 : decode cL_law 952 = .ok (.iadd, 1) := by decide +kernel
theorem dL_law_953 : decode cL_law 953 = .ok (.iaload, 1) := by decide +kernel
theorem dL_law_954 : decode cL_law 954 = .ok (.invokevirtual 126, 3) := by decide +kernel
theorem dL_law_957 : decode cL_law 957 = .ok (.aload_n 2, 1) := by decide +kernel
theorem dL_law_958 : decode cL_law 958 = .ok (.aload_n 0, 1) := by decide +kernel
theorem dL_law_959 : decode cL_law 959 = .ok (.iload_n 3, 1) := by decide +kernel
theorem dL_law_960 : decode cL_law 960 = .ok (.iconst 1, 1) := by decide +kernel
theorem dL_law_961 : decode cL_law 961 = .ok (.iadd, 1) := by decide +kernel
theorem dL_law_962 : decode cL_law 962 = .ok (.iaload, 1) := by decide +kernel
theorem dL_law_963 : decode cL_law 963 = .ok (.aload_n 0, 1) := by decide +kernel
theorem dL_law_964 : decode cL_law 964 = .ok (.iload_n 3, 1) := by decide +kernel
theorem dL_law_965 : decode cL_law 965 = .ok (.iconst 2, 1) := by decide +kernel
theorem dL_law_966 : decode cL_law 966 = .ok (.iadd, 1) := by decide +kernel
theorem dL_law_967 : decode cL_law 967 = .ok (.iaload, 1) := by decide +kernel
theorem dL_law_968 : decode cL_law 968 = .ok (.aload_n 0, 1) := by decide +kernel
theorem dL_law_969 : decode cL_law 969 = .ok (.iload_n 3, 1) := by decide +kernel
theorem dL_law_970 : decode cL_law 970 = .ok (.iconst 3, 1) := by decide +kernel
theorem dL_law_971 : decode cL_law 971 = .ok (.iadd, 1) := by decide +kernel
theorem dL_law_972 : decode cL_law 972 = .ok (.iaload, 1) := by decide +kernel
theorem dL_law_973 : decode cL_law 973 = .ok (.aload_n 0, 1) := by decide +kernel
theorem dL_law_974 : decode cL_law 974 = .ok (.iload_n 3, 1) := by decide +kernel
theorem dL_law_975 : decode cL_law 975 = .ok (.iconst 4, 1) := by decide +kernel
theorem dL_law_976 : decode cL_law 976 = .ok (.iadd, 1) := by decide +kernel
theorem dL_law_977 : decode cL_law 977 = .ok (.iaload, 1) := by decide +kernel
theorem dL_law_978 : decode cL_law 978 = .ok (.aload_n 0, 1) := by decide +kernel
theorem dL_law_979 : decode cL_law 979 = .ok (.iload_n 3, 1) := by decide +kernel
theorem dL_law_980 : decode cL_law 980 = .ok (.iconst 5, 1) := by decide +kernel
theorem dL_law_981 : decode cL_law 981 = .ok (.iadd, 1) := by decide +kernel
theorem dL_law_982 : decode cL_law 982 = .ok (.iaload, 1) := by decide +kernel
theorem dL_law_983 : decode cL_law 983 = .ok (.invokevirtual 130, 3) := by decide +kernel
theorem dL_law_986 : decode cL_law 986 = .ok (.lcmp, 1) := by decide +kernel
theorem dL_law_987 : decode cL_law 987 = .ok (.ifCond .eq 97, 3) := by decide +kernel
theorem dL_law_990 : decode cL_law 990 = .ok (.iconst 0, 1) := by decide +kernel
theorem dL_law_991 : decode cL_law 991 = .ok (.ireturn, 1) := by decide +kernel
theorem dL_law_992 : decode cL_law 992 = .ok (.aload_n 1, 1) := by decide +kernel
theorem dL_law_993 : decode cL_law 993 = .ok (.aload_n 0, 1) := by decide +kernel
theorem dL_law_994 : decode cL_law 994 = .ok (.iload_n 3, 1) := by decide +kernel
theorem dL_law_995 : decode cL_law 995 = .ok (.iconst 1, 1) := by decide +kernel
theorem dL_law_996 : decode cL_law 996 = .ok (.iadd, 1) := by decide +kernel
theorem dL_law_997 : decode cL_law 997 = .ok (.iaload, 1) := by decide +kernel
theorem dL_law_998 : decode cL_law 998 = .ok (.aload_n 0, 1) := by decide +kernel
theorem dL_law_999 : decode cL_law 999 = .ok (.iload_n 3, 1) := by decide +kernel
theorem dL_law_1000 : decode cL_law 1000 = .ok (.iconst 2, 1) := by decide +kernel
theorem dL_law_1001 : decode cL_law 1001 = .ok (.iadd, 1) := by decide +kernel
theorem dL_law_1002 : decode cL_law 1002 = .ok (.iaload, 1) := by decide +kernel
theorem dL_law_1003 : decode cL_law 1003 = .ok (.aload_n 0, 1) := by decide +kernel
theorem dL_law_1004 : decode cL_law 1004 = .ok (.iload_n 3, 1) := by decide +kernel
theorem dL_law_1005 : decode cL_law 1005 = .ok (.iconst 3, 1) := by decide +kernel
theorem dL_law_1006 : decode cL_law 1006 = .ok (.iadd, 1) := by decide +kernel
theorem dL_law_1007 : decode cL_law 1007 = .ok (.iaload, 1) := by decide +kernel
theorem dL_law_1008 : decode cL_law 1008 = .ok (.invokevirtual 131, 3) := by decide +kernel
theorem dL_law_1011 : decode cL_law 1011 = .ok (.aload_n 2, 1) := by decide +kernel
theorem dL_law_1012 : decode cL_law 1012 = .ok (.aload_n 0, 1) := by decide +kernel
theorem dL_law_1013 : decode cL_law 1013 = .ok (.iload_n 3, 1) := by decide +kernel
theorem dL_law_1014 : decode cL_law 1014 = .ok (.iconst 1, 1) := by decide +kernel
theorem dL_law_1015 : decode cL_law 1015 = .ok (.iadd, 1) := by decide +kernel
theorem dL_law_1016 : decode cL_law 1016 = .ok (.iaload, 1) := by decide +kernel
theorem dL_law_1017 : decode cL_law 1017 = .ok (.aload_n 0, 1) := by decide +kernel
theorem dL_law_1018 : decode cL_law 1018 = .ok (.iload_n 3, 1) := by decide +kernel
theorem dL_law_1019 : decode cL_law 1019 = .ok (.iconst 2, 1) := by decide +kernel
theorem dL_law_1020 : decode cL_law 1020 = .ok (.iadd, 1) := by decide +kernel
theorem dL_law_1021 : decode cL_law 1021 = .ok (.iaload, 1) := by decide +kernel
theorem dL_law_1022 : decode cL_law 1022 = .ok (.aload_n 0, 1) := by decide +kernel
theorem dL_law_1023 : decode cL_law 1023 = .ok (.iload_n 3, 1) := by decide +kernel
theorem dL_law_1024 : decode cL_law 1024 = .ok (.iconst 3, 1) := by decide +kernel
theorem dL_law_1025 : decode cL_law 1025 = .ok (.iadd, 1) := by decide +kernel
theorem dL_law_1026 : decode cL_law 1026 = .ok (.iaload, 1) := by decide +kernel
theorem dL_law_1027 : decode cL_law 1027 = .ok (.invokevirtual 134, 3) := by decide +kernel
theorem dL_law_1030 : decode cL_law 1030 = .ok (.if_icmp .eq 54, 3) := by decide +kernel
theorem dL_law_1033 : decode cL_law 1033 = .ok (.iconst 0, 1) := by decide +kernel
theorem dL_law_1034 : decode cL_law 1034 = .ok (.ireturn, 1) := by decide +kernel
theorem dL_law_1035 : decode cL_law 1035 = .ok (.aload_n 1, 1) := by decide +kernel
theorem dL_law_1036 : decode cL_law 1036 = .ok (.invokevirtual 135, 3) := by decide +kernel
theorem dL_law_1039 : decode cL_law 1039 = .ok (.aload_n 2, 1) := by decide +kernel
theorem dL_law_1040 : decode cL_law 1040 = .ok (.invokevirtual 138, 3) := by decide +kernel
theorem dL_law_1043 : decode cL_law 1043 = .ok (.if_icmp .eq 41, 3) := by decide +kernel
theorem dL_law_1046 : decode cL_law 1046 = .ok (.iconst 0, 1) := by decide +kernel
theorem dL_law_1047 : decode cL_law 1047 = .ok (.ireturn, 1) := by decide +kernel
theorem dL_law_1048 : decode cL_law 1048 = .ok (.aload_n 1, 1) := by decide +kernel
theorem dL_law_1049 : decode cL_law 1049 = .ok (.invokevirtual 139, 3) := by decide +kernel
theorem dL_law_1052 : decode cL_law 1052 = .ok (.aload_n 2, 1) := by decide +kernel
theorem dL_law_1053 : decode cL_law 1053 = .ok (.invokevirtual 142, 3) := by decide +kernel
theorem dL_law_1056 : decode cL_law 1056 = .ok (.if_icmp .eq 28, 3) := by decide +kernel
theorem dL_law_1059 : decode cL_law 1059 = .ok (.iconst 0, 1) := by decide +kernel
theorem dL_law_1060 : decode cL_law 1060 = .ok (.ireturn, 1) := by decide +kernel
theorem dL_law_1061 : decode cL_law 1061 = .ok (.aload_n 1, 1) := by decide +kernel
theorem dL_law_1062 : decode cL_law 1062 = .ok (.aload_n 0, 1) := by decide +kernel
theorem dL_law_1063 : decode cL_law 1063 = .ok (.iload_n 3, 1) := by decide +kernel
theorem dL_law_1064 : decode cL_law 1064 = .ok (.iconst 1, 1) := by decide +kernel
theorem dL_law_1065 : decode cL_law 1065 = .ok (.iadd, 1) := by decide +kernel
theorem dL_law_1066 : decode cL_law 1066 = .ok (.iaload, 1) := by decide +kernel
theorem dL_law_1067 : decode cL_law 1067 = .ok (.invokevirtual 143, 3) := by decide +kernel
theorem dL_law_1070 : decode cL_law 1070 = .ok (.aload_n 2, 1) := by decide +kernel
theorem dL_law_1071 : decode cL_law 1071 = .ok (.aload_n 0, 1) := by decide +kernel
theorem dL_law_1072 : decode cL_law 1072 = .ok (.iload_n 3, 1) := by decide +kernel
theorem dL_law_1073 : decode cL_law 1073 = .ok (.iconst 1, 1) := by decide +kernel
theorem dL_law_1074 : decode cL_law 1074 = .ok (.iadd, 1) := by decide +kernel
theorem dL_law_1075 : decode cL_law 1075 = .ok (.iaload, 1) := by decide +kernel
theorem dL_law_1076 : decode cL_law 1076 = .ok (.invokevirtual 146, 3) := by decide +kernel
theorem dL_law_1079 : decode cL_law 1079 = .ok (.if_icmp .eq 5, 3) := by decide +kernel
theorem dL_law_1082 : decode cL_law 1082 = .ok (.iconst 0, 1) := by decide +kernel
theorem dL_law_1083 : decode cL_law 1083 = .ok (.ireturn, 1) := by decide +kernel
theorem dL_law_1084 : decode cL_law 1084 = .ok (.iinc 3 6, 3) := by decide +kernel
theorem dL_law_1087 : decode cL_law 1087 = .ok (.goto (-1069), 3) := by decide +kernel
theorem dL_law_1090 : decode cL_law 1090 = .ok (.iconst 1, 1) := by decide +kernel
theorem dL_law_1091 : decode cL_law 1091 = .ok (.ireturn, 1) := by decide +kernel
