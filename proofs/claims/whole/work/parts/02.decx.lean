theorem dX0_init_0 : decode cX0_init 0 = .ok (.aload_n 0, 1) := by decide +kernel
theorem dX0_init_1 : decode cX0_init 1 = .ok (.invokespecial 3, 3) := by decide +kernel
theorem dX0_init_4 : decode cX0_init 4 = .ok (.return_, 1) := by decide +kernel
theorem dX1_init_0 : decode cX1_init 0 = .ok (.aload_n 0, 1) := by decide +kernel
theorem dX1_init_1 : decode cX1_init 1 = .ok (.invokespecial 3, 3) := by decide +kernel
theorem dX1_init_4 : decode cX1_init 4 = .ok (.aload_n 0, 1) := by decide +kernel
theorem dX1_init_5 : decode cX1_init 5 = .ok (.bipush 96, 2) := by decide +kernel
theorem dX1_init_7 : decode cX1_init 7 = .ok (.newarray .int, 2) := by decide +kernel
theorem dX1_init_9 : decode cX1_init 9 = .ok (.putfield 9, 3) := by decide +kernel
theorem dX1_init_12 : decode cX1_init 12 = .ok (.aload_n 0, 1) := by decide +kernel
theorem dX1_init_13 : decode cX1_init 13 = .ok (.iconst 0, 1) := by decide +kernel
theorem dX1_init_14 : decode cX1_init 14 = .ok (.putfield 15, 3) := by decide +kernel
theorem dX1_init_17 : decode cX1_init 17 = .ok (.return_, 1) := by decide +kernel
theorem dX2_init_0 : decode cX2_init 0 = .ok (.aload_n 0, 1) := by decide +kernel
theorem dX2_init_1 : decode cX2_init 1 = .ok (.invokespecial 3, 3) := by decide +kernel
theorem dX2_init_4 : decode cX2_init 4 = .ok (.aload_n 0, 1) := by decide +kernel
theorem dX2_init_5 : decode cX2_init 5 = .ok (.bipush 7, 2) := by decide +kernel
theorem dX2_init_7 : decode cX2_init 7 = .ok (.anewarray 9, 3) := by decide +kernel
theorem dX2_init_10 : decode cX2_init 10 = .ok (.putfield 11, 3) := by decide +kernel
theorem dX2_init_13 : decode cX2_init 13 = .ok (.aload_n 0, 1) := by decide +kernel
theorem dX2_init_14 : decode cX2_init 14 = .ok (.new 9, 3) := by decide +kernel
theorem dX2_init_17 : decode cX2_init 17 = .ok (.dup, 1) := by decide +kernel
theorem dX2_init_18 : decode cX2_init 18 = .ok (.invokespecial 17, 3) := by decide +kernel
theorem dX2_init_21 : decode cX2_init 21 = .ok (.putfield 18, 3) := by decide +kernel
theorem dX2_init_24 : decode cX2_init 24 = .ok (.aload_n 0, 1) := by decide +kernel
theorem dX2_init_25 : decode cX2_init 25 = .ok (.iconst 0, 1) := by decide +kernel
theorem dX2_init_26 : decode cX2_init 26 = .ok (.putfield 22, 3) := by decide +kernel
theorem dX2_init_29 : decode cX2_init 29 = .ok (.aload_n 0, 1) := by decide +kernel
theorem dX2_init_30 : decode cX2_init 30 = .ok (.bipush 10, 2) := by decide +kernel
theorem dX2_init_32 : decode cX2_init 32 = .ok (.putfield 26, 3) := by decide +kernel
theorem dX2_init_35 : decode cX2_init 35 = .ok (.aload_n 0, 1) := by decide +kernel
theorem dX2_init_36 : decode cX2_init 36 = .ok (.iconst 4, 1) := by decide +kernel
theorem dX2_init_37 : decode cX2_init 37 = .ok (.putfield 29, 3) := by decide +kernel
theorem dX2_init_40 : decode cX2_init 40 = .ok (.aload_n 0, 1) := by decide +kernel
theorem dX2_init_41 : decode cX2_init 41 = .ok (.iconst 2, 1) := by decide +kernel
theorem dX2_init_42 : decode cX2_init 42 = .ok (.putfield 32, 3) := by decide +kernel
theorem dX2_init_45 : decode cX2_init 45 = .ok (.aload_n 0, 1) := by decide +kernel
theorem dX2_init_46 : decode cX2_init 46 = .ok (.iconst 0, 1) := by decide +kernel
theorem dX2_init_47 : decode cX2_init 47 = .ok (.putfield 35, 3) := by decide +kernel
theorem dX2_init_50 : decode cX2_init 50 = .ok (.iconst 0, 1) := by decide +kernel
theorem dX2_init_51 : decode cX2_init 51 = .ok (.istore_n 1, 1) := by decide +kernel
theorem dX2_init_52 : decode cX2_init 52 = .ok (.iload_n 1, 1) := by decide +kernel
theorem dX2_init_53 : decode cX2_init 53 = .ok (.aload_n 0, 1) := by decide +kernel
theorem dX2_init_54 : decode cX2_init 54 = .ok (.getfield 11, 3) := by decide +kernel
theorem dX2_init_57 : decode cX2_init 57 = .ok (.arraylength, 1) := by decide +kernel
theorem dX2_init_58 : decode cX2_init 58 = .ok (.if_icmp .ge 22, 3) := by decide +kernel
theorem dX2_init_61 : decode cX2_init 61 = .ok (.aload_n 0, 1) := by decide +kernel
theorem dX2_init_62 : decode cX2_init 62 = .ok (.getfield 11, 3) := by decide +kernel
theorem dX2_init_65 : decode cX2_init 65 = .ok (.iload_n 1, 1) := by decide +kernel
theorem dX2_init_66 : decode cX2_init 66 = .ok (.new 9, 3) := by decide +kernel
theorem dX2_init_69 : decode cX2_init 69 = .ok (.dup, 1) := by decide +kernel
theorem dX2_init_70 : decode cX2_init 70 = .ok (.invokespecial 17, 3) := by decide +kernel
theorem dX2_init_73 : decode cX2_init 73 = .ok (.aastore, 1) := by decide +kernel
theorem dX2_init_74 : decode cX2_init 74 = .ok (.iinc 1 1, 3) := by decide +kernel
theorem dX2_init_77 : decode cX2_init 77 = .ok (.goto (-25), 3) := by decide +kernel
theorem dX2_init_80 : decode cX2_init 80 = .ok (.return_, 1) := by decide +kernel
theorem dX3_init_0 : decode cX3_init 0 = .ok (.aload_n 0, 1) := by decide +kernel
theorem dX3_init_1 : decode cX3_init 1 = .ok (.invokespecial 1, 3) := by decide +kernel
theorem dX3_init_4 : decode cX3_init 4 = .ok (.aload_n 0, 1) := by decide +kernel
theorem dX3_init_5 : decode cX3_init 5 = .ok (.new 7, 3) := by decide +kernel
theorem dX3_init_8 : decode cX3_init 8 = .ok (.dup, 1) := by decide +kernel
theorem dX3_init_9 : decode cX3_init 9 = .ok (.invokespecial 9, 3) := by decide +kernel
theorem dX3_init_12 : decode cX3_init 12 = .ok (.putfield 10, 3) := by decide +kernel
theorem dX3_init_15 : decode cX3_init 15 = .ok (.aload_n 0, 1) := by decide +kernel
theorem dX3_init_16 : decode cX3_init 16 = .ok (.new 7, 3) := by decide +kernel
theorem dX3_init_19 : decode cX3_init 19 = .ok (.dup, 1) := by decide +kernel
theorem dX3_init_20 : decode cX3_init 20 = .ok (.invokespecial 9, 3) := by decide +kernel
theorem dX3_init_23 : decode cX3_init 23 = .ok (.putfield 16, 3) := by decide +kernel
theorem dX3_init_26 : decode cX3_init 26 = .ok (.aload_n 0, 1) := by decide +kernel
theorem dX3_init_27 : decode cX3_init 27 = .ok (.new 7, 3) := by decide +kernel
theorem dX3_init_30 : decode cX3_init 30 = .ok (.dup, 1) := by decide +kernel
theorem dX3_init_31 : decode cX3_init 31 = .ok (.invokespecial 9, 3) := by decide +kernel
theorem dX3_init_34 : decode cX3_init 34 = .ok (.putfield 19, 3) := by decide +kernel
theorem dX3_init_37 : decode cX3_init 37 = .ok (.aload_n 0, 1) := by decide +kernel
theorem dX3_init_38 : decode cX3_init 38 = .ok (.iconst 0, 1) := by decide +kernel
theorem dX3_init_39 : decode cX3_init 39 = .ok (.putfield 22, 3) := by decide +kernel
theorem dX3_init_42 : decode cX3_init 42 = .ok (.aload_n 0, 1) := by decide +kernel
theorem dX3_init_43 : decode cX3_init 43 = .ok (.new 26, 3) := by decide +kernel
theorem dX3_init_46 : decode cX3_init 46 = .ok (.dup, 1) := by decide +kernel
theorem dX3_init_47 : decode cX3_init 47 = .ok (.invokespecial 28, 3) := by decide +kernel
theorem dX3_init_50 : decode cX3_init 50 = .ok (.putfield 29, 3) := by decide +kernel
theorem dX3_init_53 : decode cX3_init 53 = .ok (.aload_n 0, 1) := by decide +kernel
theorem dX3_init_54 : decode cX3_init 54 = .ok (.bipush 12, 2) := by decide +kernel
theorem dX3_init_56 : decode cX3_init 56 = .ok (.newarray .int, 2) := by decide +kernel
theorem dX3_init_58 : decode cX3_init 58 = .ok (.putfield 33, 3) := by decide +kernel
theorem dX3_init_61 : decode cX3_init 61 = .ok (.aload_n 0, 1) := by decide +kernel
theorem dX3_init_62 : decode cX3_init 62 = .ok (.iconst 0, 1) := by decide +kernel
theorem dX3_init_63 : decode cX3_init 63 = .ok (.putfield 37, 3) := by decide +kernel
theorem dX3_init_66 : decode cX3_init 66 = .ok (.aload_n 0, 1) := by decide +kernel
theorem dX3_init_67 : decode cX3_init 67 = .ok (.bipush 7, 2) := by decide +kernel
theorem dX3_init_69 : decode cX3_init 69 = .ok (.newarray .int, 2) := by decide +kernel
theorem dX3_init_71 : decode cX3_init 71 = .ok (.putfield 41, 3) := by decide +kernel
theorem dX3_init_74 : decode cX3_init 74 = .ok (.return_, 1) := by decide +kernel
theorem dX4_init_0 : decode cX4_init 0 = .ok (.aload_n 0, 1) := by decide +kernel
theorem dX4_init_1 : decode cX4_init 1 = .ok (.invokespecial 1, 3) := by decide +kernel
theorem dX4_init_4 : decode cX4_init 4 = .ok (.aload_n 0, 1) := by decide +kernel
theorem dX4_init_5 : decode cX4_init 5 = .ok (.bipush 47, 2) := by decide +kernel
theorem dX4_init_7 : decode cX4_init 7 = .ok (.newarray .int, 2) := by decide +kernel
theorem dX4_init_9 : decode cX4_init 9 = .ok (.putfield 9, 3) := by decide +kernel
theorem dX4_init_12 : decode cX4_init 12 = .ok (.aload_n 0, 1) := by decide +kernel
theorem dX4_init_13 : decode cX4_init 13 = .ok (.bipush 47, 2) := by decide +kernel
theorem dX4_init_15 : decode cX4_init 15 = .ok (.newarray .int, 2) := by decide +kernel
theorem dX4_init_17 : decode cX4_init 17 = .ok (.putfield 13, 3) := by decide +kernel
theorem dX4_init_20 : decode cX4_init 20 = .ok (.aload_n 0, 1) := by decide +kernel
theorem dX4_init_21 : decode cX4_init 21 = .ok (.bipush 47, 2) := by decide +kernel
theorem dX4_init_23 : decode cX4_init 23 = .ok (.newarray .int, 2) := by decide +kernel
theorem dX4_init_25 : decode cX4_init 25 = .ok (.putfield 16, 3) := by decide +kernel
theorem dX4_init_28 : decode cX4_init 28 = .ok (.aload_n 0, 1) := by decide +kernel
theorem dX4_init_29 : decode cX4_init 29 = .ok (.bipush 47, 2) := by decide +kernel
theorem dX4_init_31 : decode cX4_init 31 = .ok (.newarray .int, 2) := by decide +kernel
theorem dX4_init_33 : decode cX4_init 33 = .ok (.putfield 19, 3) := by decide +kernel
theorem dX4_init_36 : decode cX4_init 36 = .ok (.aload_n 0, 1) := by decide +kernel
theorem dX4_init_37 : decode cX4_init 37 = .ok (.bipush 96, 2) := by decide +kernel
theorem dX4_init_39 : decode cX4_init 39 = .ok (.newarray .int, 2) := by decide +kernel
theorem dX4_init_41 : decode cX4_init 41 = .ok (.putfield 22, 3) := by decide +kernel
theorem dX4_init_44 : decode cX4_init 44 = .ok (.aload_n 0, 1) := by decide +kernel
theorem dX4_init_45 : decode cX4_init 45 = .ok (.bipush 12, 2) := by decide +kernel
theorem dX4_init_47 : decode cX4_init 47 = .ok (.newarray .int, 2) := by decide +kernel
theorem dX4_init_49 : decode cX4_init 49 = .ok (.putfield 25, 3) := by decide +kernel
theorem dX4_init_52 : decode cX4_init 52 = .ok (.aload_n 0, 1) := by decide +kernel
theorem dX4_init_53 : decode cX4_init 53 = .ok (.bipush 7, 2) := by decide +kernel
theorem dX4_init_55 : decode cX4_init 55 = .ok (.newarray .int, 2) := by decide +kernel
theorem dX4_init_57 : decode cX4_init 57 = .ok (.putfield 28, 3) := by decide +kernel
theorem dX4_init_60 : decode cX4_init 60 = .ok (.aload_n 0, 1) := by decide +kernel
theorem dX4_init_61 : decode cX4_init 61 = .ok (.iconst 5, 1) := by decide +kernel
theorem dX4_init_62 : decode cX4_init 62 = .ok (.newarray .int, 2) := by decide +kernel
theorem dX4_init_64 : decode cX4_init 64 = .ok (.putfield 31, 3) := by decide +kernel
theorem dX4_init_67 : decode cX4_init 67 = .ok (.aload_n 0, 1) := by decide +kernel
theorem dX4_init_68 : decode cX4_init 68 = .ok (.getfield 9, 3) := by decide +kernel
theorem dX4_init_71 : decode cX4_init 71 = .ok (.iconst 2, 1) := by decide +kernel
theorem dX4_init_72 : decode cX4_init 72 = .ok (.bipush 10, 2) := by decide +kernel
theorem dX4_init_74 : decode cX4_init 74 = .ok (.iastore, 1) := by decide +kernel
theorem dX4_init_75 : decode cX4_init 75 = .ok (.aload_n 0, 1) := by decide +kernel
theorem dX4_init_76 : decode cX4_init 76 = .ok (.getfield 9, 3) := by decide +kernel
theorem dX4_init_79 : decode cX4_init 79 = .ok (.iconst 3, 1) := by decide +kernel
theorem dX4_init_80 : decode cX4_init 80 = .ok (.iconst 4, 1) := by decide +kernel
theorem dX4_init_81 : decode cX4_init 81 = .ok (.iastore, 1) := by decide +kernel
theorem dX4_init_82 : decode cX4_init 82 = .ok (.aload_n 0, 1) := by decide +kernel
theorem dX4_init_83 : decode cX4_init 83 = .ok (.getfield 9, 3) := by decide +kernel
theorem dX4_init_86 : decode cX4_init 86 = .ok (.iconst 4, 1) := by decide +kernel
theorem dX4_init_87 : decode cX4_init 87 = .ok (.iconst 2, 1) := by decide +kernel
theorem dX4_init_88 : decode cX4_init 88 = .ok (.iastore, 1) := by decide +kernel
theorem dX4_init_89 : decode cX4_init 89 = .ok (.return_, 1) := by decide +kernel
theorem dX0_become_0 : decode cX0_become 0 = .ok (.aload_n 0, 1) := by decide +kernel
theorem dX0_become_1 : decode cX0_become 1 = .ok (.aload_n 1, 1) := by decide +kernel
theorem dX0_become_2 : decode cX0_become 2 = .ok (.getfield 9, 3) := by decide +kernel
theorem dX0_become_5 : decode cX0_become 5 = .ok (.putfield 9, 3) := by decide +kernel
theorem dX0_become_8 : decode cX0_become 8 = .ok (.aload_n 0, 1) := by decide +kernel
theorem dX0_become_9 : decode cX0_become 9 = .ok (.aload_n 1, 1) := by decide +kernel
theorem dX0_become_10 : decode cX0_become 10 = .ok (.getfield 15, 3) := by decide +kernel
theorem dX0_become_13 : decode cX0_become 13 = .ok (.putfield 15, 3) := by decide +kernel
theorem dX0_become_16 : decode cX0_become 16 = .ok (.aload_n 0, 1) := by decide +kernel
theorem dX0_become_17 : decode cX0_become 17 = .ok (.aload_n 1, 1) := by decide +kernel
theorem dX0_become_18 : decode cX0_become 18 = .ok (.getfield 18, 3) := by decide +kernel
theorem dX0_become_21 : decode cX0_become 21 = .ok (.putfield 18, 3) := by decide +kernel
theorem dX0_become_24 : decode cX0_become 24 = .ok (.aload_n 0, 1) := by decide +kernel
theorem dX0_become_25 : decode cX0_become 25 = .ok (.aload_n 1, 1) := by decide +kernel
theorem dX0_become_26 : decode cX0_become 26 = .ok (.getfield 21, 3) := by decide +kernel
theorem dX0_become_29 : decode cX0_become 29 = .ok (.putfield 21, 3) := by decide +kernel
theorem dX0_become_32 : decode cX0_become 32 = .ok (.aload_n 0, 1) := by decide +kernel
theorem dX0_become_33 : decode cX0_become 33 = .ok (.aload_n 1, 1) := by decide +kernel
theorem dX0_become_34 : decode cX0_become 34 = .ok (.getfield 24, 3) := by decide +kernel
theorem dX0_become_37 : decode cX0_become 37 = .ok (.putfield 24, 3) := by decide +kernel
theorem dX0_become_40 : decode cX0_become 40 = .ok (.aload_n 0, 1) := by decide +kernel
theorem dX0_become_41 : decode cX0_become 41 = .ok (.aload_n 1, 1) := by decide +kernel
theorem dX0_become_42 : decode cX0_become 42 = .ok (.getfield 27, 3) := by decide +kernel
theorem dX0_become_45 : decode cX0_become 45 = .ok (.putfield 27, 3) := by decide +kernel
theorem dX0_become_48 : decode cX0_become 48 = .ok (.return_, 1) := by decide +kernel
theorem dX0_angelsPart_0 : decode cX0_angelsPart 0 = .ok (.iload_n 1, 1) := by decide +kernel
theorem dX0_angelsPart_1 : decode cX0_angelsPart 1 = .ok (.iload_n 2, 1) := by decide +kernel
theorem dX0_angelsPart_2 : decode cX0_angelsPart 2 = .ok (.imul, 1) := by decide +kernel
theorem dX0_angelsPart_3 : decode cX0_angelsPart 3 = .ok (.bipush 100, 2) := by decide +kernel
theorem dX0_angelsPart_5 : decode cX0_angelsPart 5 = .ok (.idiv, 1) := by decide +kernel
theorem dX0_angelsPart_6 : decode cX0_angelsPart 6 = .ok (.istore_n 3, 1) := by decide +kernel
theorem dX0_angelsPart_7 : decode cX0_angelsPart 7 = .ok (.aload_n 0, 1) := by decide +kernel
theorem dX0_angelsPart_8 : decode cX0_angelsPart 8 = .ok (.getfield 9, 3) := by decide +kernel
theorem dX0_angelsPart_11 : decode cX0_angelsPart 11 = .ok (.tableswitch 70 1 5 #[33, 70, 37, 39, 50], 33) := by decide +kernel
theorem dX0_angelsPart_44 : decode cX0_angelsPart 44 = .ok (.iload_n 3, 1) := by decide +kernel
theorem dX0_angelsPart_45 : decode cX0_angelsPart 45 = .ok (.iconst 2, 1) := by decide +kernel
theorem dX0_angelsPart_46 : decode cX0_angelsPart 46 = .ok (.idiv, 1) := by decide +kernel
theorem dX0_angelsPart_47 : decode cX0_angelsPart 47 = .ok (.ireturn, 1) := by decide +kernel
theorem dX0_angelsPart_48 : decode cX0_angelsPart 48 = .ok (.iconst 0, 1) := by decide +kernel
theorem dX0_angelsPart_49 : decode cX0_angelsPart 49 = .ok (.ireturn, 1) := by decide +kernel
theorem dX0_angelsPart_50 : decode cX0_angelsPart 50 = .ok (.iload_n 3, 1) := by decide +kernel
theorem dX0_angelsPart_51 : decode cX0_angelsPart 51 = .ok (.aload_n 0, 1) := by decide +kernel
theorem dX0_angelsPart_52 : decode cX0_angelsPart 52 = .ok (.getfield 24, 3) := by decide +kernel
theorem dX0_angelsPart_55 : decode cX0_angelsPart 55 = .ok (.iadd, 1) := by decide +kernel
theorem dX0_angelsPart_56 : decode cX0_angelsPart 56 = .ok (.iload_n 1, 1) := by decide +kernel
theorem dX0_angelsPart_57 : decode cX0_angelsPart 57 = .ok (.invokestatic 30, 3) := by decide +kernel
theorem dX0_angelsPart_60 : decode cX0_angelsPart 60 = .ok (.ireturn, 1) := by decide +kernel
theorem dX0_angelsPart_61 : decode cX0_angelsPart 61 = .ok (.aload_n 0, 1) := by decide +kernel
theorem dX0_angelsPart_62 : decode cX0_angelsPart 62 = .ok (.getfield 27, 3) := by decide +kernel
theorem dX0_angelsPart_65 : decode cX0_angelsPart 65 = .ok (.iload_n 1, 1) := by decide +kernel
theorem dX0_angelsPart_66 : decode cX0_angelsPart 66 = .ok (.if_icmp .le 9, 3) := by decide +kernel
theorem dX0_angelsPart_69 : decode cX0_angelsPart 69 = .ok (.iconst 2, 1) := by decide +kernel
theorem dX0_angelsPart_70 : decode cX0_angelsPart 70 = .ok (.iload_n 3, 1) := by decide +kernel
theorem dX0_angelsPart_71 : decode cX0_angelsPart 71 = .ok (.imul, 1) := by decide +kernel
theorem dX0_angelsPart_72 : decode cX0_angelsPart 72 = .ok (.goto 4, 3) := by decide +kernel
theorem dX0_angelsPart_75 : decode cX0_angelsPart 75 = .ok (.iload_n 3, 1) := by decide +kernel
theorem dX0_angelsPart_76 : decode cX0_angelsPart 76 = .ok (.iload_n 1, 1) := by decide +kernel
theorem dX0_angelsPart_77 : decode cX0_angelsPart 77 = .ok (.invokestatic 30, 3) := by decide +kernel
theorem dX0_angelsPart_80 : decode cX0_angelsPart 80 = .ok (.ireturn, 1) := by decide +kernel
theorem dX0_angelsPart_81 : decode cX0_angelsPart 81 = .ok (.iload_n 3, 1) := by decide +kernel
theorem dX0_angelsPart_82 : decode cX0_angelsPart 82 = .ok (.ireturn, 1) := by decide +kernel
theorem dX0_strengthIn_0 : decode cX0_strengthIn 0 = .ok (.aload_n 0, 1) := by decide +kernel
theorem dX0_strengthIn_1 : decode cX0_strengthIn 1 = .ok (.getfield 9, 3) := by decide +kernel
theorem dX0_strengthIn_4 : decode cX0_strengthIn 4 = .ok (.tableswitch 84 1 5 #[36, 47, 84, 47, 72], 36) := by decide +kernel
theorem dX0_strengthIn_40 : decode cX0_strengthIn 40 = .ok (.aload_n 0, 1) := by decide +kernel
theorem dX0_strengthIn_41 : decode cX0_strengthIn 41 = .ok (.getfield 21, 3) := by decide +kernel
theorem dX0_strengthIn_44 : decode cX0_strengthIn 44 = .ok (.iconst 1, 1) := by decide +kernel
theorem dX0_strengthIn_45 : decode cX0_strengthIn 45 = .ok (.isub, 1) := by decide +kernel
theorem dX0_strengthIn_46 : decode cX0_strengthIn 46 = .ok (.iconst 0, 1) := by decide +kernel
theorem dX0_strengthIn_47 : decode cX0_strengthIn 47 = .ok (.invokestatic 36, 3) := by decide +kernel
theorem dX0_strengthIn_50 : decode cX0_strengthIn 50 = .ok (.ireturn, 1) := by decide +kernel
theorem dX0_strengthIn_51 : decode cX0_strengthIn 51 = .ok (.iload_n 1, 1) := by decide +kernel
theorem dX0_strengthIn_52 : decode cX0_strengthIn 52 = .ok (.iconst 5, 1) := by decide +kernel
theorem dX0_strengthIn_53 : decode cX0_strengthIn 53 = .ok (.irem, 1) := by decide +kernel
theorem dX0_strengthIn_54 : decode cX0_strengthIn 54 = .ok (.ifCond .ne 17, 3) := by decide +kernel
theorem dX0_strengthIn_57 : decode cX0_strengthIn 57 = .ok (.aload_n 0, 1) := by decide +kernel
theorem dX0_strengthIn_58 : decode cX0_strengthIn 58 = .ok (.getfield 21, 3) := by decide +kernel
theorem dX0_strengthIn_61 : decode cX0_strengthIn 61 = .ok (.iconst 1, 1) := by decide +kernel
theorem dX0_strengthIn_62 : decode cX0_strengthIn 62 = .ok (.iadd, 1) := by decide +kernel
theorem dX0_strengthIn_63 : decode cX0_strengthIn 63 = .ok (.bipush 99, 2) := by decide +kernel
theorem dX0_strengthIn_65 : decode cX0_strengthIn 65 = .ok (.invokestatic 30, 3) := by decide +kernel
theorem dX0_strengthIn_68 : decode cX0_strengthIn 68 = .ok (.goto 7, 3) := by decide +kernel
theorem dX0_strengthIn_71 : decode cX0_strengthIn 71 = .ok (.aload_n 0, 1) := by decide +kernel
theorem dX0_strengthIn_72 : decode cX0_strengthIn 72 = .ok (.getfield 21, 3) := by decide +kernel
theorem dX0_strengthIn_75 : decode cX0_strengthIn 75 = .ok (.ireturn, 1) := by decide +kernel
theorem dX0_strengthIn_76 : decode cX0_strengthIn 76 = .ok (.aload_n 0, 1) := by decide +kernel
theorem dX0_strengthIn_77 : decode cX0_strengthIn 77 = .ok (.getfield 21, 3) := by decide +kernel
theorem dX0_strengthIn_80 : decode cX0_strengthIn 80 = .ok (.iconst 1, 1) := by decide +kernel
theorem dX0_strengthIn_81 : decode cX0_strengthIn 81 = .ok (.iadd, 1) := by decide +kernel
theorem dX0_strengthIn_82 : decode cX0_strengthIn 82 = .ok (.bipush 99, 2) := by decide +kernel
theorem dX0_strengthIn_84 : decode cX0_strengthIn 84 = .ok (.invokestatic 30, 3) := by decide +kernel
theorem dX0_strengthIn_87 : decode cX0_strengthIn 87 = .ok (.ireturn, 1) := by decide +kernel
theorem dX0_strengthIn_88 : decode cX0_strengthIn 88 = .ok (.aload_n 0, 1) := by decide +kernel
theorem dX0_strengthIn_89 : decode cX0_strengthIn 89 = .ok (.getfield 21, 3) := by decide +kernel
theorem dX0_strengthIn_92 : decode cX0_strengthIn 92 = .ok (.ireturn, 1) := by decide +kernel
theorem dX0_sentBackIn_0 : decode cX0_sentBackIn 0 = .ok (.iload_n 1, 1) := by decide +kernel
theorem dX0_sentBackIn_1 : decode cX0_sentBackIn 1 = .ok (.bipush 7, 2) := by decide +kernel
theorem dX0_sentBackIn_3 : decode cX0_sentBackIn 3 = .ok (.irem, 1) := by decide +kernel
theorem dX0_sentBackIn_4 : decode cX0_sentBackIn 4 = .ok (.ifCond .eq 5, 3) := by decide +kernel
theorem dX0_sentBackIn_7 : decode cX0_sentBackIn 7 = .ok (.iconst 0, 1) := by decide +kernel
theorem dX0_sentBackIn_8 : decode cX0_sentBackIn 8 = .ok (.ireturn, 1) := by decide +kernel
theorem dX0_sentBackIn_9 : decode cX0_sentBackIn 9 = .ok (.aload_n 0, 1) := by decide +kernel
theorem dX0_sentBackIn_10 : decode cX0_sentBackIn 10 = .ok (.getfield 9, 3) := by decide +kernel
theorem dX0_sentBackIn_13 : decode cX0_sentBackIn 13 = .ok (.tableswitch 64 1 5 #[62, 35, 62, 55, 62], 35) := by decide +kernel
theorem dX0_sentBackIn_48 : decode cX0_sentBackIn 48 = .ok (.aload_n 0, 1) := by decide +kernel
theorem dX0_sentBackIn_49 : decode cX0_sentBackIn 49 = .ok (.getfield 27, 3) := by decide +kernel
theorem dX0_sentBackIn_52 : decode cX0_sentBackIn 52 = .ok (.aload_n 0, 1) := by decide +kernel
theorem dX0_sentBackIn_53 : decode cX0_sentBackIn 53 = .ok (.getfield 24, 3) := by decide +kernel
theorem dX0_sentBackIn_56 : decode cX0_sentBackIn 56 = .ok (.if_icmp .lt 10, 3) := by decide +kernel
theorem dX0_sentBackIn_59 : decode cX0_sentBackIn 59 = .ok (.aload_n 0, 1) := by decide +kernel
theorem dX0_sentBackIn_60 : decode cX0_sentBackIn 60 = .ok (.getfield 24, 3) := by decide +kernel
theorem dX0_sentBackIn_63 : decode cX0_sentBackIn 63 = .ok (.goto 4, 3) := by decide +kernel
theorem dX0_sentBackIn_66 : decode cX0_sentBackIn 66 = .ok (.iconst 0, 1) := by decide +kernel
theorem dX0_sentBackIn_67 : decode cX0_sentBackIn 67 = .ok (.ireturn, 1) := by decide +kernel
theorem dX0_sentBackIn_68 : decode cX0_sentBackIn 68 = .ok (.aload_n 0, 1) := by decide +kernel
theorem dX0_sentBackIn_69 : decode cX0_sentBackIn 69 = .ok (.getfield 27, 3) := by decide +kernel
theorem dX0_sentBackIn_72 : decode cX0_sentBackIn 72 = .ok (.iconst 3, 1) := by decide +kernel
theorem dX0_sentBackIn_73 : decode cX0_sentBackIn 73 = .ok (.idiv, 1) := by decide +kernel
theorem dX0_sentBackIn_74 : decode cX0_sentBackIn 74 = .ok (.ireturn, 1) := by decide +kernel
theorem dX0_sentBackIn_75 : decode cX0_sentBackIn 75 = .ok (.iconst 0, 1) := by decide +kernel
theorem dX0_sentBackIn_76 : decode cX0_sentBackIn 76 = .ok (.ireturn, 1) := by decide +kernel
theorem dX0_sentBackIn_77 : decode cX0_sentBackIn 77 = .ok (.aload_n 0, 1) := by decide +kernel
theorem dX0_sentBackIn_78 : decode cX0_sentBackIn 78 = .ok (.getfield 27, 3) := by decide +kernel
theorem dX0_sentBackIn_81 : decode cX0_sentBackIn 81 = .ok (.iconst 2, 1) := by decide +kernel
theorem dX0_sentBackIn_82 : decode cX0_sentBackIn 82 = .ok (.idiv, 1) := by decide +kernel
theorem dX0_sentBackIn_83 : decode cX0_sentBackIn 83 = .ok (.ireturn, 1) := by decide +kernel
theorem dX0_goOn_0 : decode cX0_goOn 0 = .ok (.aload_n 0, 1) := by decide +kernel
theorem dX0_goOn_1 : decode cX0_goOn 1 = .ok (.aload_n 0, 1) := by decide +kernel
theorem dX0_goOn_2 : decode cX0_goOn 2 = .ok (.getfield 18, 3) := by decide +kernel
theorem dX0_goOn_5 : decode cX0_goOn 5 = .ok (.iload_n 1, 1) := by decide +kernel
theorem dX0_goOn_6 : decode cX0_goOn 6 = .ok (.invokevirtual 39, 3) := by decide +kernel
theorem dX0_goOn_9 : decode cX0_goOn 9 = .ok (.istore_n 3, 1) := by decide +kernel
theorem dX0_goOn_10 : decode cX0_goOn 10 = .ok (.aload_n 0, 1) := by decide +kernel
theorem dX0_goOn_11 : decode cX0_goOn 11 = .ok (.dup, 1) := by decide +kernel
theorem dX0_goOn_12 : decode cX0_goOn 12 = .ok (.getfield 27, 3) := by decide +kernel
theorem dX0_goOn_15 : decode cX0_goOn 15 = .ok (.iload_n 3, 1) := by decide +kernel
theorem dX0_goOn_16 : decode cX0_goOn 16 = .ok (.iadd, 1) := by decide +kernel
theorem dX0_goOn_17 : decode cX0_goOn 17 = .ok (.putfield 27, 3) := by decide +kernel
theorem dX0_goOn_20 : decode cX0_goOn 20 = .ok (.aload_n 0, 1) := by decide +kernel
theorem dX0_goOn_21 : decode cX0_goOn 21 = .ok (.dup, 1) := by decide +kernel
theorem dX0_goOn_22 : decode cX0_goOn 22 = .ok (.getfield 18, 3) := by decide +kernel
theorem dX0_goOn_25 : decode cX0_goOn 25 = .ok (.iload_n 3, 1) := by decide +kernel
theorem dX0_goOn_26 : decode cX0_goOn 26 = .ok (.isub, 1) := by decide +kernel
theorem dX0_goOn_27 : decode cX0_goOn 27 = .ok (.putfield 18, 3) := by decide +kernel
theorem dX0_goOn_30 : decode cX0_goOn 30 = .ok (.aload_n 0, 1) := by decide +kernel
theorem dX0_goOn_31 : decode cX0_goOn 31 = .ok (.aload_n 0, 1) := by decide +kernel
theorem dX0_goOn_32 : decode cX0_goOn 32 = .ok (.iload_n 2, 1) := by decide +kernel
theorem dX0_goOn_33 : decode cX0_goOn 33 = .ok (.invokevirtual 42, 3) := by decide +kernel
theorem dX0_goOn_36 : decode cX0_goOn 36 = .ok (.putfield 21, 3) := by decide +kernel
theorem dX0_goOn_39 : decode cX0_goOn 39 = .ok (.aload_n 0, 1) := by decide +kernel
theorem dX0_goOn_40 : decode cX0_goOn 40 = .ok (.iload_n 2, 1) := by decide +kernel
theorem dX0_goOn_41 : decode cX0_goOn 41 = .ok (.invokevirtual 46, 3) := by decide +kernel
theorem dX0_goOn_44 : decode cX0_goOn 44 = .ok (.aload_n 0, 1) := by decide +kernel
theorem dX0_goOn_45 : decode cX0_goOn 45 = .ok (.getfield 15, 3) := by decide +kernel
theorem dX0_goOn_48 : decode cX0_goOn 48 = .ok (.aload_n 0, 1) := by decide +kernel
theorem dX0_goOn_49 : decode cX0_goOn 49 = .ok (.getfield 18, 3) := by decide +kernel
theorem dX0_goOn_52 : decode cX0_goOn 52 = .ok (.isub, 1) := by decide +kernel
theorem dX0_goOn_53 : decode cX0_goOn 53 = .ok (.invokestatic 30, 3) := by decide +kernel
theorem dX0_goOn_56 : decode cX0_goOn 56 = .ok (.istore 4, 2) := by decide +kernel
theorem dX0_goOn_58 : decode cX0_goOn 58 = .ok (.aload_n 0, 1) := by decide +kernel
theorem dX0_goOn_59 : decode cX0_goOn 59 = .ok (.dup, 1) := by decide +kernel
theorem dX0_goOn_60 : decode cX0_goOn 60 = .ok (.getfield 27, 3) := by decide +kernel
theorem dX0_goOn_63 : decode cX0_goOn 63 = .ok (.iload 4, 2) := by decide +kernel
theorem dX0_goOn_65 : decode cX0_goOn 65 = .ok (.isub, 1) := by decide +kernel
theorem dX0_goOn_66 : decode cX0_goOn 66 = .ok (.putfield 27, 3) := by decide +kernel
theorem dX0_goOn_69 : decode cX0_goOn 69 = .ok (.aload_n 0, 1) := by decide +kernel
theorem dX0_goOn_70 : decode cX0_goOn 70 = .ok (.dup, 1) := by decide +kernel
theorem dX0_goOn_71 : decode cX0_goOn 71 = .ok (.getfield 18, 3) := by decide +kernel
theorem dX0_goOn_74 : decode cX0_goOn 74 = .ok (.iload 4, 2) := by decide +kernel
theorem dX0_goOn_76 : decode cX0_goOn 76 = .ok (.iadd, 1) := by decide +kernel
theorem dX0_goOn_77 : decode cX0_goOn 77 = .ok (.putfield 18, 3) := by decide +kernel
theorem dX0_goOn_80 : decode cX0_goOn 80 = .ok (.return_, 1) := by decide +kernel
theorem dX0_isHalfTheirs_0 : decode cX0_isHalfTheirs 0 = .ok (.aload_n 0, 1) := by decide +kernel
theorem dX0_isHalfTheirs_1 : decode cX0_isHalfTheirs 1 = .ok (.getfield 27, 3) := by decide +kernel
theorem dX0_isHalfTheirs_4 : decode cX0_isHalfTheirs 4 = .ok (.ifCond .le 18, 3) := by decide +kernel
theorem dX0_isHalfTheirs_7 : decode cX0_isHalfTheirs 7 = .ok (.aload_n 0, 1) := by decide +kernel
theorem dX0_isHalfTheirs_8 : decode cX0_isHalfTheirs 8 = .ok (.getfield 27, 3) := by decide +kernel
theorem dX0_isHalfTheirs_11 : decode cX0_isHalfTheirs 11 = .ok (.aload_n 0, 1) := by decide +kernel
theorem dX0_isHalfTheirs_12 : decode cX0_isHalfTheirs 12 = .ok (.getfield 18, 3) := by decide +kernel
theorem dX0_isHalfTheirs_15 : decode cX0_isHalfTheirs 15 = .ok (.if_icmp .lt 7, 3) := by decide +kernel
theorem dX0_isHalfTheirs_18 : decode cX0_isHalfTheirs 18 = .ok (.iconst 1, 1) := by decide +kernel
theorem dX0_isHalfTheirs_19 : decode cX0_isHalfTheirs 19 = .ok (.goto 4, 3) := by decide +kernel
theorem dX0_isHalfTheirs_22 : decode cX0_isHalfTheirs 22 = .ok (.iconst 0, 1) := by decide +kernel
theorem dX0_isHalfTheirs_23 : decode cX0_isHalfTheirs 23 = .ok (.ireturn, 1) := by decide +kernel
theorem dX0_worth_0 : decode cX0_worth 0 = .ok (.aload_n 0, 1) := by decide +kernel
theorem dX0_worth_1 : decode cX0_worth 1 = .ok (.getfield 18, 3) := by decide +kernel
theorem dX0_worth_4 : decode cX0_worth 4 = .ok (.aload_n 0, 1) := by decide +kernel
theorem dX0_worth_5 : decode cX0_worth 5 = .ok (.getfield 21, 3) := by decide +kernel
theorem dX0_worth_8 : decode cX0_worth 8 = .ok (.imul, 1) := by decide +kernel
theorem dX0_worth_9 : decode cX0_worth 9 = .ok (.ireturn, 1) := by decide +kernel
theorem dX1_isFull_0 : decode cX1_isFull 0 = .ok (.aload_n 0, 1) := by decide +kernel
theorem dX1_isFull_1 : decode cX1_isFull 1 = .ok (.getfield 15, 3) := by decide +kernel
theorem dX1_isFull_4 : decode cX1_isFull 4 = .ok (.bipush 96, 2) := by decide +kernel
theorem dX1_isFull_6 : decode cX1_isFull 6 = .ok (.if_icmp .lt 7, 3) := by decide +kernel
theorem dX1_isFull_9 : decode cX1_isFull 9 = .ok (.iconst 1, 1) := by decide +kernel
theorem dX1_isFull_10 : decode cX1_isFull 10 = .ok (.goto 4, 3) := by decide +kernel
theorem dX1_isFull_13 : decode cX1_isFull 13 = .ok (.iconst 0, 1) := by decide +kernel
theorem dX1_isFull_14 : decode cX1_isFull 14 = .ok (.ireturn, 1) := by decide +kernel
theorem dX1_add_0 : decode cX1_add 0 = .ok (.aload_n 0, 1) := by decide +kernel
theorem dX1_add_1 : decode cX1_add 1 = .ok (.getfield 15, 3) := by decide +kernel
theorem dX1_add_4 : decode cX1_add 4 = .ok (.ifCond .lt 35, 3) := by decide +kernel
theorem dX1_add_7 : decode cX1_add 7 = .ok (.aload_n 0, 1) := by decide +kernel
theorem dX1_add_8 : decode cX1_add 8 = .ok (.getfield 15, 3) := by decide +kernel
theorem dX1_add_11 : decode cX1_add 11 = .ok (.aload_n 0, 1) := by decide +kernel
theorem dX1_add_12 : decode cX1_add 12 = .ok (.getfield 9, 3) := by decide +kernel
theorem dX1_add_15 : decode cX1_add 15 = .ok (.arraylength, 1) := by decide +kernel
theorem dX1_add_16 : decode cX1_add 16 = .ok (.if_icmp .ge 23, 3) := by decide +kernel
theorem dX1_add_19 : decode cX1_add 19 = .ok (.aload_n 0, 1) := by decide +kernel
theorem dX1_add_20 : decode cX1_add 20 = .ok (.getfield 9, 3) := by decide +kernel
theorem dX1_add_23 : decode cX1_add 23 = .ok (.aload_n 0, 1) := by decide +kernel
theorem dX1_add_24 : decode cX1_add 24 = .ok (.getfield 15, 3) := by decide +kernel
theorem dX1_add_27 : decode cX1_add 27 = .ok (.iload_n 1, 1) := by decide +kernel
theorem dX1_add_28 : decode cX1_add 28 = .ok (.iastore, 1) := by decide +kernel
theorem dX1_add_29 : decode cX1_add 29 = .ok (.aload_n 0, 1) := by decide +kernel
theorem dX1_add_30 : decode cX1_add 30 = .ok (.dup, 1) := by decide +kernel
theorem dX1_add_31 : decode cX1_add 31 = .ok (.getfield 15, 3) := by decide +kernel
theorem dX1_add_34 : decode cX1_add 34 = .ok (.iconst 1, 1) := by decide +kernel
theorem dX1_add_35 : decode cX1_add 35 = .ok (.iadd, 1) := by decide +kernel
theorem dX1_add_36 : decode cX1_add 36 = .ok (.putfield 15, 3) := by decide +kernel
theorem dX1_add_39 : decode cX1_add 39 = .ok (.aload_n 0, 1) := by decide +kernel
theorem dX1_add_40 : decode cX1_add 40 = .ok (.getfield 15, 3) := by decide +kernel
theorem dX1_add_43 : decode cX1_add 43 = .ok (.ireturn, 1) := by decide +kernel
theorem dX1_forget_0 : decode cX1_forget 0 = .ok (.aload_n 0, 1) := by decide +kernel
theorem dX1_forget_1 : decode cX1_forget 1 = .ok (.iconst 0, 1) := by decide +kernel
theorem dX1_forget_2 : decode cX1_forget 2 = .ok (.putfield 15, 3) := by decide +kernel
theorem dX1_forget_5 : decode cX1_forget 5 = .ok (.return_, 1) := by decide +kernel
theorem dX1_at_0 : decode cX1_at 0 = .ok (.iload_n 1, 1) := by decide +kernel
theorem dX1_at_1 : decode cX1_at 1 = .ok (.ifCond .lt 29, 3) := by decide +kernel
theorem dX1_at_4 : decode cX1_at 4 = .ok (.iload_n 1, 1) := by decide +kernel
theorem dX1_at_5 : decode cX1_at 5 = .ok (.aload_n 0, 1) := by decide +kernel
theorem dX1_at_6 : decode cX1_at 6 = .ok (.getfield 15, 3) := by decide +kernel
theorem dX1_at_9 : decode cX1_at 9 = .ok (.if_icmp .ge 21, 3) := by decide +kernel
theorem dX1_at_12 : decode cX1_at 12 = .ok (.iload_n 1, 1) := by decide +kernel
theorem dX1_at_13 : decode cX1_at 13 = .ok (.aload_n 0, 1) := by decide +kernel
theorem dX1_at_14 : decode cX1_at 14 = .ok (.getfield 9, 3) := by decide +kernel
theorem dX1_at_17 : decode cX1_at 17 = .ok (.arraylength, 1) := by decide +kernel
theorem dX1_at_18 : decode cX1_at 18 = .ok (.if_icmp .ge 12, 3) := by decide +kernel
theorem dX1_at_21 : decode cX1_at 21 = .ok (.aload_n 0, 1) := by decide +kernel
theorem dX1_at_22 : decode cX1_at 22 = .ok (.getfield 9, 3) := by decide +kernel
theorem dX1_at_25 : decode cX1_at 25 = .ok (.iload_n 1, 1) := by decide +kernel
theorem dX1_at_26 : decode cX1_at 26 = .ok (.iaload, 1) := by decide +kernel
theorem dX1_at_27 : decode cX1_at 27 = .ok (.goto 4, 3) := by decide +kernel
theorem dX1_at_30 : decode cX1_at 30 = .ok (.iconst (-1), 1) := by decide +kernel
theorem dX1_at_31 : decode cX1_at 31 = .ok (.ireturn, 1) := by decide +kernel
theorem dX1_kind_0 : decode cX1_kind 0 = .ok (.aload_n 0, 1) := by decide +kernel
theorem dX1_kind_1 : decode cX1_kind 1 = .ok (.iload_n 1, 1) := by decide +kernel
theorem dX1_kind_2 : decode cX1_kind 2 = .ok (.invokevirtual 19, 3) := by decide +kernel
theorem dX1_kind_5 : decode cX1_kind 5 = .ok (.istore_n 2, 1) := by decide +kernel
theorem dX1_kind_6 : decode cX1_kind 6 = .ok (.iload_n 2, 1) := by decide +kernel
theorem dX1_kind_7 : decode cX1_kind 7 = .ok (.ifCond .ge 7, 3) := by decide +kernel
theorem dX1_kind_10 : decode cX1_kind 10 = .ok (.iconst (-1), 1) := by decide +kernel
theorem dX1_kind_11 : decode cX1_kind 11 = .ok (.goto 10, 3) := by decide +kernel
theorem dX1_kind_14 : decode cX1_kind 14 = .ok (.ldc 23, 2) := by decide +kernel
theorem dX1_kind_16 : decode cX1_kind 16 = .ok (.iload_n 2, 1) := by decide +kernel
theorem dX1_kind_17 : decode cX1_kind 17 = .ok (.i2c, 1) := by decide +kernel
theorem dX1_kind_18 : decode cX1_kind 18 = .ok (.invokevirtual 25, 3) := by decide +kernel
theorem dX1_kind_21 : decode cX1_kind 21 = .ok (.ireturn, 1) := by decide +kernel
theorem dX1_number_0 : decode cX1_number 0 = .ok (.iconst 0, 1) := by decide +kernel
theorem dX1_number_1 : decode cX1_number 1 = .ok (.istore_n 3, 1) := by decide +kernel
theorem dX1_number_2 : decode cX1_number 2 = .ok (.iconst 0, 1) := by decide +kernel
theorem dX1_number_3 : decode cX1_number 3 = .ok (.istore 4, 2) := by decide +kernel
theorem dX1_number_5 : decode cX1_number 5 = .ok (.iload 4, 2) := by decide +kernel
theorem dX1_number_7 : decode cX1_number 7 = .ok (.iload_n 2, 1) := by decide +kernel
theorem dX1_number_8 : decode cX1_number 8 = .ok (.if_icmp .ge 26, 3) := by decide +kernel
theorem dX1_number_11 : decode cX1_number 11 = .ok (.bipush 10, 2) := by decide +kernel
theorem dX1_number_13 : decode cX1_number 13 = .ok (.iload_n 3, 1) := by decide +kernel
theorem dX1_number_14 : decode cX1_number 14 = .ok (.imul, 1) := by decide +kernel
theorem dX1_number_15 : decode cX1_number 15 = .ok (.aload_n 0, 1) := by decide +kernel
theorem dX1_number_16 : decode cX1_number 16 = .ok (.iload_n 1, 1) := by decide +kernel
theorem dX1_number_17 : decode cX1_number 17 = .ok (.iload 4, 2) := by decide +kernel
theorem dX1_number_19 : decode cX1_number 19 = .ok (.iadd, 1) := by decide +kernel
theorem dX1_number_20 : decode cX1_number 20 = .ok (.invokevirtual 19, 3) := by decide +kernel
theorem dX1_number_23 : decode cX1_number 23 = .ok (.iadd, 1) := by decide +kernel
theorem dX1_number_24 : decode cX1_number 24 = .ok (.bipush 48, 2) := by decide +kernel
theorem dX1_number_26 : decode cX1_number 26 = .ok (.isub, 1) := by decide +kernel
theorem dX1_number_27 : decode cX1_number 27 = .ok (.istore_n 3, 1) := by decide +kernel
theorem dX1_number_28 : decode cX1_number 28 = .ok (.iinc 4 1, 3) := by decide +kernel
theorem dX1_number_31 : decode cX1_number 31 = .ok (.goto (-26), 3) := by decide +kernel
theorem dX1_number_34 : decode cX1_number 34 = .ok (.iload_n 3, 1) := by decide +kernel
theorem dX1_number_35 : decode cX1_number 35 = .ok (.ireturn, 1) := by decide +kernel
theorem dX1_firstWrong_0 : decode cX1_firstWrong 0 = .ok (.ldc 30, 2) := by decide +kernel
theorem dX1_firstWrong_2 : decode cX1_firstWrong 2 = .ok (.astore_n 1, 1) := by decide +kernel
theorem dX1_firstWrong_3 : decode cX1_firstWrong 3 = .ok (.iconst 0, 1) := by decide +kernel
theorem dX1_firstWrong_4 : decode cX1_firstWrong 4 = .ok (.istore_n 2, 1) := by decide +kernel
theorem dX1_firstWrong_5 : decode cX1_firstWrong 5 = .ok (.iconst 0, 1) := by decide +kernel
theorem dX1_firstWrong_6 : decode cX1_firstWrong 6 = .ok (.istore_n 3, 1) := by decide +kernel
theorem dX1_firstWrong_7 : decode cX1_firstWrong 7 = .ok (.iload_n 3, 1) := by decide +kernel
theorem dX1_firstWrong_8 : decode cX1_firstWrong 8 = .ok (.aload_n 0, 1) := by decide +kernel
theorem dX1_firstWrong_9 : decode cX1_firstWrong 9 = .ok (.getfield 15, 3) := by decide +kernel
theorem dX1_firstWrong_12 : decode cX1_firstWrong 12 = .ok (.if_icmp .ge 54, 3) := by decide +kernel
theorem dX1_firstWrong_15 : decode cX1_firstWrong 15 = .ok (.iload_n 2, 1) := by decide +kernel
theorem dX1_firstWrong_16 : decode cX1_firstWrong 16 = .ok (.aload_n 1, 1) := by decide +kernel
theorem dX1_firstWrong_17 : decode cX1_firstWrong 17 = .ok (.invokevirtual 32, 3) := by decide +kernel
theorem dX1_firstWrong_20 : decode cX1_firstWrong 20 = .ok (.if_icmp .ne 14, 3) := by decide +kernel
theorem dX1_firstWrong_23 : decode cX1_firstWrong 23 = .ok (.aload_n 0, 1) := by decide +kernel
theorem dX1_firstWrong_24 : decode cX1_firstWrong 24 = .ok (.iload_n 3, 1) := by decide +kernel
theorem dX1_firstWrong_25 : decode cX1_firstWrong 25 = .ok (.invokevirtual 19, 3) := by decide +kernel
theorem dX1_firstWrong_28 : decode cX1_firstWrong 28 = .ok (.invokestatic 35, 3) := by decide +kernel
theorem dX1_firstWrong_31 : decode cX1_firstWrong 31 = .ok (.astore_n 1, 1) := by decide +kernel
theorem dX1_firstWrong_32 : decode cX1_firstWrong 32 = .ok (.iconst 0, 1) := by decide +kernel
theorem dX1_firstWrong_33 : decode cX1_firstWrong 33 = .ok (.istore_n 2, 1) := by decide +kernel
theorem dX1_firstWrong_34 : decode cX1_firstWrong 34 = .ok (.iload_n 2, 1) := by decide +kernel
theorem dX1_firstWrong_35 : decode cX1_firstWrong 35 = .ok (.aload_n 1, 1) := by decide +kernel
theorem dX1_firstWrong_36 : decode cX1_firstWrong 36 = .ok (.invokevirtual 32, 3) := by decide +kernel
theorem dX1_firstWrong_39 : decode cX1_firstWrong 39 = .ok (.if_icmp .ge 16, 3) := by decide +kernel
theorem dX1_firstWrong_42 : decode cX1_firstWrong 42 = .ok (.aload_n 0, 1) := by decide +kernel
theorem dX1_firstWrong_43 : decode cX1_firstWrong 43 = .ok (.iload_n 3, 1) := by decide +kernel
theorem dX1_firstWrong_44 : decode cX1_firstWrong 44 = .ok (.aload_n 1, 1) := by decide +kernel
theorem dX1_firstWrong_45 : decode cX1_firstWrong 45 = .ok (.iload_n 2, 1) := by decide +kernel
theorem dX1_firstWrong_46 : decode cX1_firstWrong 46 = .ok (.invokevirtual 39, 3) := by decide +kernel
theorem dX1_firstWrong_49 : decode cX1_firstWrong 49 = .ok (.invokevirtual 43, 3) := by decide +kernel
theorem dX1_firstWrong_52 : decode cX1_firstWrong 52 = .ok (.ifCond .ne 5, 3) := by decide +kernel
theorem dX1_firstWrong_55 : decode cX1_firstWrong 55 = .ok (.iload_n 3, 1) := by decide +kernel
theorem dX1_firstWrong_56 : decode cX1_firstWrong 56 = .ok (.ireturn, 1) := by decide +kernel
theorem dX1_firstWrong_57 : decode cX1_firstWrong 57 = .ok (.iinc 2 1, 3) := by decide +kernel
theorem dX1_firstWrong_60 : decode cX1_firstWrong 60 = .ok (.iinc 3 1, 3) := by decide +kernel
theorem dX1_firstWrong_63 : decode cX1_firstWrong 63 = .ok (.goto (-56), 3) := by decide +kernel
theorem dX1_firstWrong_66 : decode cX1_firstWrong 66 = .ok (.aload_n 0, 1) := by decide +kernel
theorem dX1_firstWrong_67 : decode cX1_firstWrong 67 = .ok (.getfield 15, 3) := by decide +kernel
theorem dX1_firstWrong_70 : decode cX1_firstWrong 70 = .ok (.ifCond .le 16, 3) := by decide +kernel
theorem dX1_firstWrong_73 : decode cX1_firstWrong 73 = .ok (.iload_n 2, 1) := by decide +kernel
theorem dX1_firstWrong_74 : decode cX1_firstWrong 74 = .ok (.aload_n 1, 1) := by decide +kernel
theorem dX1_firstWrong_75 : decode cX1_firstWrong 75 = .ok (.invokevirtual 32, 3) := by decide +kernel
theorem dX1_firstWrong_78 : decode cX1_firstWrong 78 = .ok (.if_icmp .ne 8, 3) := by decide +kernel
theorem dX1_firstWrong_81 : decode cX1_firstWrong 81 = .ok (.bipush (-9), 2) := by decide +kernel
theorem dX1_firstWrong_83 : decode cX1_firstWrong 83 = .ok (.goto 7, 3) := by decide +kernel
theorem dX1_firstWrong_86 : decode cX1_firstWrong 86 = .ok (.aload_n 0, 1) := by decide +kernel
theorem dX1_firstWrong_87 : decode cX1_firstWrong 87 = .ok (.getfield 15, 3) := by decide +kernel
theorem dX1_firstWrong_90 : decode cX1_firstWrong 90 = .ok (.ireturn, 1) := by decide +kernel
theorem dX1_fits_0 : decode cX1_fits 0 = .ok (.aload_n 0, 1) := by decide +kernel
theorem dX1_fits_1 : decode cX1_fits 1 = .ok (.iload_n 1, 1) := by decide +kernel
theorem dX1_fits_2 : decode cX1_fits 2 = .ok (.invokevirtual 19, 3) := by decide +kernel
theorem dX1_fits_5 : decode cX1_fits 5 = .ok (.istore_n 3, 1) := by decide +kernel
theorem dX1_fits_6 : decode cX1_fits 6 = .ok (.iload_n 2, 1) := by decide +kernel
theorem dX1_fits_7 : decode cX1_fits 7 = .ok (.lookupswitch 57 #[(57, 25), (107, 43)], 25) := by decide +kernel
theorem dX1_fits_32 : decode cX1_fits 32 = .ok (.iload_n 3, 1) := by decide +kernel
theorem dX1_fits_33 : decode cX1_fits 33 = .ok (.bipush 48, 2) := by decide +kernel
theorem dX1_fits_35 : decode cX1_fits 35 = .ok (.if_icmp .lt 13, 3) := by decide +kernel
theorem dX1_fits_38 : decode cX1_fits 38 = .ok (.iload_n 3, 1) := by decide +kernel
theorem dX1_fits_39 : decode cX1_fits 39 = .ok (.bipush 57, 2) := by decide +kernel
theorem dX1_fits_41 : decode cX1_fits 41 = .ok (.if_icmp .gt 7, 3) := by decide +kernel
theorem dX1_fits_44 : decode cX1_fits 44 = .ok (.iconst 1, 1) := by decide +kernel
theorem dX1_fits_45 : decode cX1_fits 45 = .ok (.goto 4, 3) := by decide +kernel
theorem dX1_fits_48 : decode cX1_fits 48 = .ok (.iconst 0, 1) := by decide +kernel
theorem dX1_fits_49 : decode cX1_fits 49 = .ok (.ireturn, 1) := by decide +kernel
theorem dX1_fits_50 : decode cX1_fits 50 = .ok (.aload_n 0, 1) := by decide +kernel
theorem dX1_fits_51 : decode cX1_fits 51 = .ok (.iload_n 1, 1) := by decide +kernel
theorem dX1_fits_52 : decode cX1_fits 52 = .ok (.invokevirtual 47, 3) := by decide +kernel
theorem dX1_fits_55 : decode cX1_fits 55 = .ok (.ifCond .lt 7, 3) := by decide +kernel
theorem dX1_fits_58 : decode cX1_fits 58 = .ok (.iconst 1, 1) := by decide +kernel
theorem dX1_fits_59 : decode cX1_fits 59 = .ok (.goto 4, 3) := by decide +kernel
theorem dX1_fits_62 : decode cX1_fits 62 = .ok (.iconst 0, 1) := by decide +kernel
theorem dX1_fits_63 : decode cX1_fits 63 = .ok (.ireturn, 1) := by decide +kernel
theorem dX1_fits_64 : decode cX1_fits 64 = .ok (.iload_n 3, 1) := by decide +kernel
theorem dX1_fits_65 : decode cX1_fits 65 = .ok (.iload_n 2, 1) := by decide +kernel
theorem dX1_fits_66 : decode cX1_fits 66 = .ok (.if_icmp .ne 7, 3) := by decide +kernel
theorem dX1_fits_69 : decode cX1_fits 69 = .ok (.iconst 1, 1) := by decide +kernel
theorem dX1_fits_70 : decode cX1_fits 70 = .ok (.goto 4, 3) := by decide +kernel
theorem dX1_fits_73 : decode cX1_fits 73 = .ok (.iconst 0, 1) := by decide +kernel
theorem dX1_fits_74 : decode cX1_fits 74 = .ok (.ireturn, 1) := by decide +kernel
theorem dX1_shapeOf_0 : decode cX1_shapeOf 0 = .ok (.iload_n 0, 1) := by decide +kernel
theorem dX1_shapeOf_1 : decode cX1_shapeOf 1 = .ok (.lookupswitch 77 #[(99, 59), (101, 68), (108, 65), (112, 71), (114, 62), (121, 74)], 59) := by decide +kernel
theorem dX1_shapeOf_60 : decode cX1_shapeOf 60 = .ok (.ldc 50, 2) := by decide +kernel
theorem dX1_shapeOf_62 : decode cX1_shapeOf 62 = .ok (.areturn, 1) := by decide +kernel
theorem dX1_shapeOf_63 : decode cX1_shapeOf 63 = .ok (.ldc 52, 2) := by decide +kernel
theorem dX1_shapeOf_65 : decode cX1_shapeOf 65 = .ok (.areturn, 1) := by decide +kernel
theorem dX1_shapeOf_66 : decode cX1_shapeOf 66 = .ok (.ldc 54, 2) := by decide +kernel
theorem dX1_shapeOf_68 : decode cX1_shapeOf 68 = .ok (.areturn, 1) := by decide +kernel
theorem dX1_shapeOf_69 : decode cX1_shapeOf 69 = .ok (.ldc 56, 2) := by decide +kernel
theorem dX1_shapeOf_71 : decode cX1_shapeOf 71 = .ok (.areturn, 1) := by decide +kernel
theorem dX1_shapeOf_72 : decode cX1_shapeOf 72 = .ok (.ldc 58, 2) := by decide +kernel
theorem dX1_shapeOf_74 : decode cX1_shapeOf 74 = .ok (.areturn, 1) := by decide +kernel
theorem dX1_shapeOf_75 : decode cX1_shapeOf 75 = .ok (.ldc 60, 2) := by decide +kernel
theorem dX1_shapeOf_77 : decode cX1_shapeOf 77 = .ok (.areturn, 1) := by decide +kernel
theorem dX1_shapeOf_78 : decode cX1_shapeOf 78 = .ok (.ldc 30, 2) := by decide +kernel
theorem dX1_shapeOf_80 : decode cX1_shapeOf 80 = .ok (.areturn, 1) := by decide +kernel
theorem dX2_at_0 : decode cX2_at 0 = .ok (.iload_n 1, 1) := by decide +kernel
theorem dX2_at_1 : decode cX2_at 1 = .ok (.ifCond .lt 21, 3) := by decide +kernel
theorem dX2_at_4 : decode cX2_at 4 = .ok (.iload_n 1, 1) := by decide +kernel
theorem dX2_at_5 : decode cX2_at 5 = .ok (.aload_n 0, 1) := by decide +kernel
theorem dX2_at_6 : decode cX2_at 6 = .ok (.getfield 11, 3) := by decide +kernel
theorem dX2_at_9 : decode cX2_at 9 = .ok (.arraylength, 1) := by decide +kernel
theorem dX2_at_10 : decode cX2_at 10 = .ok (.if_icmp .ge 12, 3) := by decide +kernel
theorem dX2_at_13 : decode cX2_at 13 = .ok (.aload_n 0, 1) := by decide +kernel
theorem dX2_at_14 : decode cX2_at 14 = .ok (.getfield 11, 3) := by decide +kernel
theorem dX2_at_17 : decode cX2_at 17 = .ok (.iload_n 1, 1) := by decide +kernel
theorem dX2_at_18 : decode cX2_at 18 = .ok (.aaload, 1) := by decide +kernel
theorem dX2_at_19 : decode cX2_at 19 = .ok (.goto 7, 3) := by decide +kernel
theorem dX2_at_22 : decode cX2_at 22 = .ok (.aload_n 0, 1) := by decide +kernel
theorem dX2_at_23 : decode cX2_at 23 = .ok (.getfield 18, 3) := by decide +kernel
theorem dX2_at_26 : decode cX2_at 26 = .ok (.astore_n 2, 1) := by decide +kernel
theorem dX2_at_27 : decode cX2_at 27 = .ok (.aload_n 2, 1) := by decide +kernel
theorem dX2_at_28 : decode cX2_at 28 = .ok (.ifnonnull 10, 3) := by decide +kernel
theorem dX2_at_31 : decode cX2_at 31 = .ok (.aload_n 0, 1) := by decide +kernel
theorem dX2_at_32 : decode cX2_at 32 = .ok (.getfield 18, 3) := by decide +kernel
theorem dX2_at_35 : decode cX2_at 35 = .ok (.goto 4, 3) := by decide +kernel
theorem dX2_at_38 : decode cX2_at 38 = .ok (.aload_n 2, 1) := by decide +kernel
theorem dX2_at_39 : decode cX2_at 39 = .ok (.areturn, 1) := by decide +kernel
theorem dX2_become_0 : decode cX2_become 0 = .ok (.aload_n 0, 1) := by decide +kernel
theorem dX2_become_1 : decode cX2_become 1 = .ok (.aload_n 1, 1) := by decide +kernel
theorem dX2_become_2 : decode cX2_become 2 = .ok (.getfield 22, 3) := by decide +kernel
theorem dX2_become_5 : decode cX2_become 5 = .ok (.putfield 22, 3) := by decide +kernel
theorem dX2_become_8 : decode cX2_become 8 = .ok (.aload_n 0, 1) := by decide +kernel
theorem dX2_become_9 : decode cX2_become 9 = .ok (.aload_n 1, 1) := by decide +kernel
theorem dX2_become_10 : decode cX2_become 10 = .ok (.getfield 26, 3) := by decide +kernel
theorem dX2_become_13 : decode cX2_become 13 = .ok (.putfield 26, 3) := by decide +kernel
theorem dX2_become_16 : decode cX2_become 16 = .ok (.aload_n 0, 1) := by decide +kernel
theorem dX2_become_17 : decode cX2_become 17 = .ok (.aload_n 1, 1) := by decide +kernel
theorem dX2_become_18 : decode cX2_become 18 = .ok (.getfield 29, 3) := by decide +kernel
theorem dX2_become_21 : decode cX2_become 21 = .ok (.putfield 29, 3) := by decide +kernel
theorem dX2_become_24 : decode cX2_become 24 = .ok (.aload_n 0, 1) := by decide +kernel
theorem dX2_become_25 : decode cX2_become 25 = .ok (.aload_n 1, 1) := by decide +kernel
theorem dX2_become_26 : decode cX2_become 26 = .ok (.getfield 32, 3) := by decide +kernel
theorem dX2_become_29 : decode cX2_become 29 = .ok (.putfield 32, 3) := by decide +kernel
theorem dX2_become_32 : decode cX2_become 32 = .ok (.aload_n 0, 1) := by decide +kernel
theorem dX2_become_33 : decode cX2_become 33 = .ok (.aload_n 1, 1) := by decide +kernel
theorem dX2_become_34 : decode cX2_become 34 = .ok (.getfield 35, 3) := by decide +kernel
theorem dX2_become_37 : decode cX2_become 37 = .ok (.putfield 35, 3) := by decide +kernel
theorem dX2_become_40 : decode cX2_become 40 = .ok (.iconst 0, 1) := by decide +kernel
theorem dX2_become_41 : decode cX2_become 41 = .ok (.istore_n 2, 1) := by decide +kernel
theorem dX2_become_42 : decode cX2_become 42 = .ok (.iload_n 2, 1) := by decide +kernel
theorem dX2_become_43 : decode cX2_become 43 = .ok (.aload_n 0, 1) := by decide +kernel
theorem dX2_become_44 : decode cX2_become 44 = .ok (.getfield 22, 3) := by decide +kernel
theorem dX2_become_47 : decode cX2_become 47 = .ok (.if_icmp .ge 22, 3) := by decide +kernel
theorem dX2_become_50 : decode cX2_become 50 = .ok (.aload_n 0, 1) := by decide +kernel
theorem dX2_become_51 : decode cX2_become 51 = .ok (.iload_n 2, 1) := by decide +kernel
theorem dX2_become_52 : decode cX2_become 52 = .ok (.invokevirtual 38, 3) := by decide +kernel
theorem dX2_become_55 : decode cX2_become 55 = .ok (.aload_n 1, 1) := by decide +kernel
theorem dX2_become_56 : decode cX2_become 56 = .ok (.iload_n 2, 1) := by decide +kernel
theorem dX2_become_57 : decode cX2_become 57 = .ok (.invokevirtual 38, 3) := by decide +kernel
theorem dX2_become_60 : decode cX2_become 60 = .ok (.invokevirtual 42, 3) := by decide +kernel
theorem dX2_become_63 : decode cX2_become 63 = .ok (.iinc 2 1, 3) := by decide +kernel
theorem dX2_become_66 : decode cX2_become 66 = .ok (.goto (-24), 3) := by decide +kernel
theorem dX2_become_69 : decode cX2_become 69 = .ok (.return_, 1) := by decide +kernel
theorem dX2_caskFault_0 : decode cX2_caskFault 0 = .ok (.iload_n 1, 1) := by decide +kernel
theorem dX2_caskFault_1 : decode cX2_caskFault 1 = .ok (.ifCond .lt 11, 3) := by decide +kernel
theorem dX2_caskFault_4 : decode cX2_caskFault 4 = .ok (.iload_n 1, 1) := by decide +kernel
theorem dX2_caskFault_5 : decode cX2_caskFault 5 = .ok (.aload_n 0, 1) := by decide +kernel
theorem dX2_caskFault_6 : decode cX2_caskFault 6 = .ok (.getfield 22, 3) := by decide +kernel
theorem dX2_caskFault_9 : decode cX2_caskFault 9 = .ok (.if_icmp .lt 7, 3) := by decide +kernel
theorem dX2_caskFault_12 : decode cX2_caskFault 12 = .ok (.iconst (-1), 1) := by decide +kernel
theorem dX2_caskFault_13 : decode cX2_caskFault 13 = .ok (.goto 4, 3) := by decide +kernel
theorem dX2_caskFault_16 : decode cX2_caskFault 16 = .ok (.iconst 0, 1) := by decide +kernel
theorem dX2_caskFault_17 : decode cX2_caskFault 17 = .ok (.ireturn, 1) := by decide +kernel
theorem dX2_addCask_0 : decode cX2_addCask 0 = .ok (.iload_n 2, 1) := by decide +kernel
theorem dX2_addCask_1 : decode cX2_addCask 1 = .ok (.iconst 1, 1) := by decide +kernel
theorem dX2_addCask_2 : decode cX2_addCask 2 = .ok (.sipush 400, 3) := by decide +kernel
theorem dX2_addCask_5 : decode cX2_addCask 5 = .ok (.invokestatic 46, 3) := by decide +kernel
theorem dX2_addCask_8 : decode cX2_addCask 8 = .ok (.iload_n 3, 1) := by decide +kernel
theorem dX2_addCask_9 : decode cX2_addCask 9 = .ok (.iconst 0, 1) := by decide +kernel
theorem dX2_addCask_10 : decode cX2_addCask 10 = .ok (.iload_n 2, 1) := by decide +kernel
theorem dX2_addCask_11 : decode cX2_addCask 11 = .ok (.invokestatic 46, 3) := by decide +kernel
theorem dX2_addCask_14 : decode cX2_addCask 14 = .ok (.aload_n 0, 1) := by decide +kernel
theorem dX2_addCask_15 : decode cX2_addCask 15 = .ok (.getfield 22, 3) := by decide +kernel
theorem dX2_addCask_18 : decode cX2_addCask 18 = .ok (.bipush 7, 2) := by decide +kernel
theorem dX2_addCask_20 : decode cX2_addCask 20 = .ok (.if_icmp .lt 8, 3) := by decide +kernel
theorem dX2_addCask_23 : decode cX2_addCask 23 = .ok (.bipush (-6), 2) := by decide +kernel
theorem dX2_addCask_25 : decode cX2_addCask 25 = .ok (.goto 4, 3) := by decide +kernel
theorem dX2_addCask_28 : decode cX2_addCask 28 = .ok (.iconst 0, 1) := by decide +kernel
theorem dX2_addCask_29 : decode cX2_addCask 29 = .ok (.invokestatic 50, 3) := by decide +kernel
theorem dX2_addCask_32 : decode cX2_addCask 32 = .ok (.istore 6, 2) := by decide +kernel
theorem dX2_addCask_34 : decode cX2_addCask 34 = .ok (.iload 6, 2) := by decide +kernel
theorem dX2_addCask_36 : decode cX2_addCask 36 = .ok (.ifCond .eq 6, 3) := by decide +kernel
theorem dX2_addCask_39 : decode cX2_addCask 39 = .ok (.iload 6, 2) := by decide +kernel
theorem dX2_addCask_41 : decode cX2_addCask 41 = .ok (.ireturn, 1) := by decide +kernel
theorem dX2_addCask_42 : decode cX2_addCask 42 = .ok (.aload_n 0, 1) := by decide +kernel
theorem dX2_addCask_43 : decode cX2_addCask 43 = .ok (.aload_n 0, 1) := by decide +kernel
theorem dX2_addCask_44 : decode cX2_addCask 44 = .ok (.getfield 22, 3) := by decide +kernel
theorem dX2_addCask_47 : decode cX2_addCask 47 = .ok (.invokevirtual 38, 3) := by decide +kernel
theorem dX2_addCask_50 : decode cX2_addCask 50 = .ok (.astore 7, 2) := by decide +kernel
theorem dX2_addCask_52 : decode cX2_addCask 52 = .ok (.aload 7, 2) := by decide +kernel
theorem dX2_addCask_54 : decode cX2_addCask 54 = .ok (.iload_n 1, 1) := by decide +kernel
theorem dX2_addCask_55 : decode cX2_addCask 55 = .ok (.putfield 53, 3) := by decide +kernel
theorem dX2_addCask_58 : decode cX2_addCask 58 = .ok (.aload 7, 2) := by decide +kernel
theorem dX2_addCask_60 : decode cX2_addCask 60 = .ok (.iload_n 2, 1) := by decide +kernel
theorem dX2_addCask_61 : decode cX2_addCask 61 = .ok (.putfield 56, 3) := by decide +kernel
theorem dX2_addCask_64 : decode cX2_addCask 64 = .ok (.aload 7, 2) := by decide +kernel
theorem dX2_addCask_66 : decode cX2_addCask 66 = .ok (.iload_n 3, 1) := by decide +kernel
theorem dX2_addCask_67 : decode cX2_addCask 67 = .ok (.putfield 59, 3) := by decide +kernel
theorem dX2_addCask_70 : decode cX2_addCask 70 = .ok (.aload 7, 2) := by decide +kernel
theorem dX2_addCask_72 : decode cX2_addCask 72 = .ok (.iload 4, 2) := by decide +kernel
theorem dX2_addCask_74 : decode cX2_addCask 74 = .ok (.putfield 62, 3) := by decide +kernel
theorem dX2_addCask_77 : decode cX2_addCask 77 = .ok (.aload 7, 2) := by decide +kernel
theorem dX2_addCask_79 : decode cX2_addCask 79 = .ok (.iload 5, 2) := by decide +kernel
theorem dX2_addCask_81 : decode cX2_addCask 81 = .ok (.putfield 65, 3) := by decide +kernel
theorem dX2_addCask_84 : decode cX2_addCask 84 = .ok (.aload 7, 2) := by decide +kernel
theorem dX2_addCask_86 : decode cX2_addCask 86 = .ok (.iconst 0, 1) := by decide +kernel
theorem dX2_addCask_87 : decode cX2_addCask 87 = .ok (.putfield 68, 3) := by decide +kernel
theorem dX2_addCask_90 : decode cX2_addCask 90 = .ok (.aload_n 0, 1) := by decide +kernel
theorem dX2_addCask_91 : decode cX2_addCask 91 = .ok (.dup, 1) := by decide +kernel
theorem dX2_addCask_92 : decode cX2_addCask 92 = .ok (.getfield 22, 3) := by decide +kernel
theorem dX2_addCask_95 : decode cX2_addCask 95 = .ok (.iconst 1, 1) := by decide +kernel
theorem dX2_addCask_96 : decode cX2_addCask 96 = .ok (.iadd, 1) := by decide +kernel
theorem dX2_addCask_97 : decode cX2_addCask 97 = .ok (.putfield 22, 3) := by decide +kernel
theorem dX2_addCask_100 : decode cX2_addCask 100 = .ok (.iconst 0, 1) := by decide +kernel
theorem dX2_addCask_101 : decode cX2_addCask 101 = .ok (.ireturn, 1) := by decide +kernel
theorem dX2_chosen_0 : decode cX2_chosen 0 = .ok (.iload_n 1, 1) := by decide +kernel
theorem dX2_chosen_1 : decode cX2_chosen 1 = .ok (.ifCond .ne 10, 3) := by decide +kernel
theorem dX2_chosen_4 : decode cX2_chosen 4 = .ok (.aload_n 0, 1) := by decide +kernel
theorem dX2_chosen_5 : decode cX2_chosen 5 = .ok (.getfield 26, 3) := by decide +kernel
theorem dX2_chosen_8 : decode cX2_chosen 8 = .ok (.goto 19, 3) := by decide +kernel
theorem dX2_chosen_11 : decode cX2_chosen 11 = .ok (.iload_n 1, 1) := by decide +kernel
theorem dX2_chosen_12 : decode cX2_chosen 12 = .ok (.iconst 1, 1) := by decide +kernel
theorem dX2_chosen_13 : decode cX2_chosen 13 = .ok (.if_icmp .ne 10, 3) := by decide +kernel
theorem dX2_chosen_16 : decode cX2_chosen 16 = .ok (.aload_n 0, 1) := by decide +kernel
theorem dX2_chosen_17 : decode cX2_chosen 17 = .ok (.getfield 29, 3) := by decide +kernel
theorem dX2_chosen_20 : decode cX2_chosen 20 = .ok (.goto 7, 3) := by decide +kernel
theorem dX2_chosen_23 : decode cX2_chosen 23 = .ok (.aload_n 0, 1) := by decide +kernel
theorem dX2_chosen_24 : decode cX2_chosen 24 = .ok (.getfield 32, 3) := by decide +kernel
theorem dX2_chosen_27 : decode cX2_chosen 27 = .ok (.ireturn, 1) := by decide +kernel
theorem dX2_choose_0 : decode cX2_choose 0 = .ok (.iload_n 1, 1) := by decide +kernel
theorem dX2_choose_1 : decode cX2_choose 1 = .ok (.iconst 2, 1) := by decide +kernel
theorem dX2_choose_2 : decode cX2_choose 2 = .ok (.invokestatic 71, 3) := by decide +kernel
theorem dX2_choose_5 : decode cX2_choose 5 = .ok (.iload_n 2, 1) := by decide +kernel
theorem dX2_choose_6 : decode cX2_choose 6 = .ok (.iload_n 1, 1) := by decide +kernel
theorem dX2_choose_7 : decode cX2_choose 7 = .ok (.invokestatic 75, 3) := by decide +kernel
theorem dX2_choose_10 : decode cX2_choose 10 = .ok (.iload_n 1, 1) := by decide +kernel
theorem dX2_choose_11 : decode cX2_choose 11 = .ok (.invokestatic 79, 3) := by decide +kernel
theorem dX2_choose_14 : decode cX2_choose 14 = .ok (.invokestatic 46, 3) := by decide +kernel
theorem dX2_choose_17 : decode cX2_choose 17 = .ok (.iconst 0, 1) := by decide +kernel
theorem dX2_choose_18 : decode cX2_choose 18 = .ok (.invokestatic 50, 3) := by decide +kernel
theorem dX2_choose_21 : decode cX2_choose 21 = .ok (.istore_n 3, 1) := by decide +kernel
theorem dX2_choose_22 : decode cX2_choose 22 = .ok (.iload_n 3, 1) := by decide +kernel
theorem dX2_choose_23 : decode cX2_choose 23 = .ok (.ifCond .eq 5, 3) := by decide +kernel
theorem dX2_choose_26 : decode cX2_choose 26 = .ok (.iload_n 3, 1) := by decide +kernel
theorem dX2_choose_27 : decode cX2_choose 27 = .ok (.ireturn, 1) := by decide +kernel
theorem dX2_choose_28 : decode cX2_choose 28 = .ok (.iload_n 1, 1) := by decide +kernel
theorem dX2_choose_29 : decode cX2_choose 29 = .ok (.lookupswitch 43 #[(0, 27), (1, 35)], 27) := by decide +kernel
theorem dX2_choose_56 : decode cX2_choose 56 = .ok (.aload_n 0, 1) := by decide +kernel
theorem dX2_choose_57 : decode cX2_choose 57 = .ok (.iload_n 2, 1) := by decide +kernel
theorem dX2_choose_58 : decode cX2_choose 58 = .ok (.putfield 26, 3) := by decide +kernel
theorem dX2_choose_61 : decode cX2_choose 61 = .ok (.goto 16, 3) := by decide +kernel
theorem dX2_choose_64 : decode cX2_choose 64 = .ok (.aload_n 0, 1) := by decide +kernel
theorem dX2_choose_65 : decode cX2_choose 65 = .ok (.iload_n 2, 1) := by decide +kernel
theorem dX2_choose_66 : decode cX2_choose 66 = .ok (.putfield 29, 3) := by decide +kernel
theorem dX2_choose_69 : decode cX2_choose 69 = .ok (.goto 8, 3) := by decide +kernel
theorem dX2_choose_72 : decode cX2_choose 72 = .ok (.aload_n 0, 1) := by decide +kernel
theorem dX2_choose_73 : decode cX2_choose 73 = .ok (.iload_n 2, 1) := by decide +kernel
theorem dX2_choose_74 : decode cX2_choose 74 = .ok (.putfield 32, 3) := by decide +kernel
theorem dX2_choose_77 : decode cX2_choose 77 = .ok (.iconst 0, 1) := by decide +kernel
theorem dX2_choose_78 : decode cX2_choose 78 = .ok (.ireturn, 1) := by decide +kernel
theorem dX2_pourFault_0 : decode cX2_pourFault 0 = .ok (.aload_n 0, 1) := by decide +kernel
theorem dX2_pourFault_1 : decode cX2_pourFault 1 = .ok (.iload_n 1, 1) := by decide +kernel
theorem dX2_pourFault_2 : decode cX2_pourFault 2 = .ok (.invokevirtual 82, 3) := by decide +kernel
theorem dX2_pourFault_5 : decode cX2_pourFault 5 = .ok (.aload_n 0, 1) := by decide +kernel
theorem dX2_pourFault_6 : decode cX2_pourFault 6 = .ok (.iload_n 2, 1) := by decide +kernel
theorem dX2_pourFault_7 : decode cX2_pourFault 7 = .ok (.invokevirtual 82, 3) := by decide +kernel
theorem dX2_pourFault_10 : decode cX2_pourFault 10 = .ok (.iload_n 1, 1) := by decide +kernel
theorem dX2_pourFault_11 : decode cX2_pourFault 11 = .ok (.iload_n 2, 1) := by decide +kernel
theorem dX2_pourFault_12 : decode cX2_pourFault 12 = .ok (.if_icmp .ne 7, 3) := by decide +kernel
theorem dX2_pourFault_15 : decode cX2_pourFault 15 = .ok (.iconst (-1), 1) := by decide +kernel
theorem dX2_pourFault_16 : decode cX2_pourFault 16 = .ok (.goto 4, 3) := by decide +kernel
theorem dX2_pourFault_19 : decode cX2_pourFault 19 = .ok (.iconst 0, 1) := by decide +kernel
theorem dX2_pourFault_20 : decode cX2_pourFault 20 = .ok (.invokestatic 50, 3) := by decide +kernel
theorem dX2_pourFault_23 : decode cX2_pourFault 23 = .ok (.istore 4, 2) := by decide +kernel
theorem dX2_pourFault_25 : decode cX2_pourFault 25 = .ok (.iload 4, 2) := by decide +kernel
theorem dX2_pourFault_27 : decode cX2_pourFault 27 = .ok (.ifCond .ne 13, 3) := by decide +kernel
theorem dX2_pourFault_30 : decode cX2_pourFault 30 = .ok (.iload_n 3, 1) := by decide +kernel
theorem dX2_pourFault_31 : decode cX2_pourFault 31 = .ok (.iconst 1, 1) := by decide +kernel
theorem dX2_pourFault_32 : decode cX2_pourFault 32 = .ok (.sipush 400, 3) := by decide +kernel
theorem dX2_pourFault_35 : decode cX2_pourFault 35 = .ok (.invokestatic 46, 3) := by decide +kernel
theorem dX2_pourFault_38 : decode cX2_pourFault 38 = .ok (.istore 4, 2) := by decide +kernel
theorem dX2_pourFault_40 : decode cX2_pourFault 40 = .ok (.iload 4, 2) := by decide +kernel
theorem dX2_pourFault_42 : decode cX2_pourFault 42 = .ok (.ifCond .eq 6, 3) := by decide +kernel
theorem dX2_pourFault_45 : decode cX2_pourFault 45 = .ok (.iload 4, 2) := by decide +kernel
theorem dX2_pourFault_47 : decode cX2_pourFault 47 = .ok (.ireturn, 1) := by decide +kernel
theorem dX2_pourFault_48 : decode cX2_pourFault 48 = .ok (.aload_n 0, 1) := by decide +kernel
theorem dX2_pourFault_49 : decode cX2_pourFault 49 = .ok (.iload_n 2, 1) := by decide +kernel
theorem dX2_pourFault_50 : decode cX2_pourFault 50 = .ok (.invokevirtual 38, 3) := by decide +kernel
theorem dX2_pourFault_53 : decode cX2_pourFault 53 = .ok (.astore 5, 2) := by decide +kernel
theorem dX2_pourFault_55 : decode cX2_pourFault 55 = .ok (.iload_n 3, 1) := by decide +kernel
theorem dX2_pourFault_56 : decode cX2_pourFault 56 = .ok (.aload_n 0, 1) := by decide +kernel
theorem dX2_pourFault_57 : decode cX2_pourFault 57 = .ok (.iload_n 1, 1) := by decide +kernel
theorem dX2_pourFault_58 : decode cX2_pourFault 58 = .ok (.invokevirtual 38, 3) := by decide +kernel
theorem dX2_pourFault_61 : decode cX2_pourFault 61 = .ok (.getfield 59, 3) := by decide +kernel
theorem dX2_pourFault_64 : decode cX2_pourFault 64 = .ok (.if_icmp .gt 18, 3) := by decide +kernel
theorem dX2_pourFault_67 : decode cX2_pourFault 67 = .ok (.iload_n 3, 1) := by decide +kernel
theorem dX2_pourFault_68 : decode cX2_pourFault 68 = .ok (.aload 5, 2) := by decide +kernel
theorem dX2_pourFault_70 : decode cX2_pourFault 70 = .ok (.getfield 56, 3) := by decide +kernel
theorem dX2_pourFault_73 : decode cX2_pourFault 73 = .ok (.aload 5, 2) := by decide +kernel
theorem dX2_pourFault_75 : decode cX2_pourFault 75 = .ok (.getfield 59, 3) := by decide +kernel
theorem dX2_pourFault_78 : decode cX2_pourFault 78 = .ok (.isub, 1) := by decide +kernel
theorem dX2_pourFault_79 : decode cX2_pourFault 79 = .ok (.if_icmp .le 8, 3) := by decide +kernel
theorem dX2_pourFault_82 : decode cX2_pourFault 82 = .ok (.bipush (-3), 2) := by decide +kernel
theorem dX2_pourFault_84 : decode cX2_pourFault 84 = .ok (.goto 4, 3) := by decide +kernel
theorem dX2_pourFault_87 : decode cX2_pourFault 87 = .ok (.iconst 0, 1) := by decide +kernel
theorem dX2_pourFault_88 : decode cX2_pourFault 88 = .ok (.ireturn, 1) := by decide +kernel
theorem dX2_pouredStrength_0 : decode cX2_pouredStrength 0 = .ok (.aload_n 0, 1) := by decide +kernel
theorem dX2_pouredStrength_1 : decode cX2_pouredStrength 1 = .ok (.iload_n 2, 1) := by decide +kernel
theorem dX2_pouredStrength_2 : decode cX2_pouredStrength 2 = .ok (.invokevirtual 38, 3) := by decide +kernel
theorem dX2_pouredStrength_5 : decode cX2_pouredStrength 5 = .ok (.astore 4, 2) := by decide +kernel
theorem dX2_pouredStrength_7 : decode cX2_pouredStrength 7 = .ok (.aload 4, 2) := by decide +kernel
theorem dX2_pouredStrength_9 : decode cX2_pouredStrength 9 = .ok (.getfield 59, 3) := by decide +kernel
theorem dX2_pouredStrength_12 : decode cX2_pouredStrength 12 = .ok (.iload_n 3, 1) := by decide +kernel
theorem dX2_pouredStrength_13 : decode cX2_pouredStrength 13 = .ok (.iadd, 1) := by decide +kernel
theorem dX2_pouredStrength_14 : decode cX2_pouredStrength 14 = .ok (.istore 5, 2) := by decide +kernel
theorem dX2_pouredStrength_16 : decode cX2_pouredStrength 16 = .ok (.iload 5, 2) := by decide +kernel
theorem dX2_pouredStrength_18 : decode cX2_pouredStrength 18 = .ok (.ifCond .le 31, 3) := by decide +kernel
theorem dX2_pouredStrength_21 : decode cX2_pouredStrength 21 = .ok (.aload 4, 2) := by decide +kernel
theorem dX2_pouredStrength_23 : decode cX2_pouredStrength 23 = .ok (.getfield 62, 3) := by decide +kernel
theorem dX2_pouredStrength_26 : decode cX2_pouredStrength 26 = .ok (.aload 4, 2) := by decide +kernel
theorem dX2_pouredStrength_28 : decode cX2_pouredStrength 28 = .ok (.getfield 59, 3) := by decide +kernel
theorem dX2_pouredStrength_31 : decode cX2_pouredStrength 31 = .ok (.imul, 1) := by decide +kernel
theorem dX2_pouredStrength_32 : decode cX2_pouredStrength 32 = .ok (.aload_n 0, 1) := by decide +kernel
theorem dX2_pouredStrength_33 : decode cX2_pouredStrength 33 = .ok (.iload_n 1, 1) := by decide +kernel
theorem dX2_pouredStrength_34 : decode cX2_pouredStrength 34 = .ok (.invokevirtual 38, 3) := by decide +kernel
theorem dX2_pouredStrength_37 : decode cX2_pouredStrength 37 = .ok (.getfield 62, 3) := by decide +kernel
theorem dX2_pouredStrength_40 : decode cX2_pouredStrength 40 = .ok (.iload_n 3, 1) := by decide +kernel
theorem dX2_pouredStrength_41 : decode cX2_pouredStrength 41 = .ok (.imul, 1) := by decide +kernel
theorem dX2_pouredStrength_42 : decode cX2_pouredStrength 42 = .ok (.iadd, 1) := by decide +kernel
theorem dX2_pouredStrength_43 : decode cX2_pouredStrength 43 = .ok (.iload 5, 2) := by decide +kernel
theorem dX2_pouredStrength_45 : decode cX2_pouredStrength 45 = .ok (.idiv, 1) := by decide +kernel
theorem dX2_pouredStrength_46 : decode cX2_pouredStrength 46 = .ok (.goto 8, 3) := by decide +kernel
theorem dX2_pouredStrength_49 : decode cX2_pouredStrength 49 = .ok (.aload 4, 2) := by decide +kernel
theorem dX2_pouredStrength_51 : decode cX2_pouredStrength 51 = .ok (.getfield 62, 3) := by decide +kernel
theorem dX2_pouredStrength_54 : decode cX2_pouredStrength 54 = .ok (.ireturn, 1) := by decide +kernel
theorem dX2_pourOver_0 : decode cX2_pourOver 0 = .ok (.aload_n 0, 1) := by decide +kernel
theorem dX2_pourOver_1 : decode cX2_pourOver 1 = .ok (.iload_n 1, 1) := by decide +kernel
theorem dX2_pourOver_2 : decode cX2_pourOver 2 = .ok (.iload_n 2, 1) := by decide +kernel
theorem dX2_pourOver_3 : decode cX2_pourOver 3 = .ok (.iload_n 3, 1) := by decide +kernel
theorem dX2_pourOver_4 : decode cX2_pourOver 4 = .ok (.invokevirtual 85, 3) := by decide +kernel
theorem dX2_pourOver_7 : decode cX2_pourOver 7 = .ok (.istore 4, 2) := by decide +kernel
theorem dX2_pourOver_9 : decode cX2_pourOver 9 = .ok (.iload 4, 2) := by decide +kernel
theorem dX2_pourOver_11 : decode cX2_pourOver 11 = .ok (.ifCond .ne 46, 3) := by decide +kernel
theorem dX2_pourOver_14 : decode cX2_pourOver 14 = .ok (.aload_n 0, 1) := by decide +kernel
theorem dX2_pourOver_15 : decode cX2_pourOver 15 = .ok (.iload_n 2, 1) := by decide +kernel
theorem dX2_pourOver_16 : decode cX2_pourOver 16 = .ok (.invokevirtual 38, 3) := by decide +kernel
theorem dX2_pourOver_19 : decode cX2_pourOver 19 = .ok (.aload_n 0, 1) := by decide +kernel
theorem dX2_pourOver_20 : decode cX2_pourOver 20 = .ok (.iload_n 1, 1) := by decide +kernel
theorem dX2_pourOver_21 : decode cX2_pourOver 21 = .ok (.iload_n 2, 1) := by decide +kernel
theorem dX2_pourOver_22 : decode cX2_pourOver 22 = .ok (.iload_n 3, 1) := by decide +kernel
theorem dX2_pourOver_23 : decode cX2_pourOver 23 = .ok (.invokevirtual 88, 3) := by decide +kernel
theorem dX2_pourOver_26 : decode cX2_pourOver 26 = .ok (.putfield 62, 3) := by decide +kernel
theorem dX2_pourOver_29 : decode cX2_pourOver 29 = .ok (.aload_n 0, 1) := by decide +kernel
theorem dX2_pourOver_30 : decode cX2_pourOver 30 = .ok (.iload_n 2, 1) := by decide +kernel
theorem dX2_pourOver_31 : decode cX2_pourOver 31 = .ok (.invokevirtual 38, 3) := by decide +kernel
theorem dX2_pourOver_34 : decode cX2_pourOver 34 = .ok (.dup, 1) := by decide +kernel
theorem dX2_pourOver_35 : decode cX2_pourOver 35 = .ok (.getfield 59, 3) := by decide +kernel
theorem dX2_pourOver_38 : decode cX2_pourOver 38 = .ok (.iload_n 3, 1) := by decide +kernel
theorem dX2_pourOver_39 : decode cX2_pourOver 39 = .ok (.iadd, 1) := by decide +kernel
theorem dX2_pourOver_40 : decode cX2_pourOver 40 = .ok (.putfield 59, 3) := by decide +kernel
theorem dX2_pourOver_43 : decode cX2_pourOver 43 = .ok (.aload_n 0, 1) := by decide +kernel
theorem dX2_pourOver_44 : decode cX2_pourOver 44 = .ok (.iload_n 1, 1) := by decide +kernel
theorem dX2_pourOver_45 : decode cX2_pourOver 45 = .ok (.invokevirtual 38, 3) := by decide +kernel
theorem dX2_pourOver_48 : decode cX2_pourOver 48 = .ok (.dup, 1) := by decide +kernel
theorem dX2_pourOver_49 : decode cX2_pourOver 49 = .ok (.getfield 59, 3) := by decide +kernel
theorem dX2_pourOver_52 : decode cX2_pourOver 52 = .ok (.iload_n 3, 1) := by decide +kernel
theorem dX2_pourOver_53 : decode cX2_pourOver 53 = .ok (.isub, 1) := by decide +kernel
theorem dX2_pourOver_54 : decode cX2_pourOver 54 = .ok (.putfield 59, 3) := by decide +kernel
theorem dX2_pourOver_57 : decode cX2_pourOver 57 = .ok (.iload 4, 2) := by decide +kernel
theorem dX2_pourOver_59 : decode cX2_pourOver 59 = .ok (.ireturn, 1) := by decide +kernel
theorem dX2_blended_0 : decode cX2_blended 0 = .ok (.aload_n 0, 1) := by decide +kernel
theorem dX2_blended_1 : decode cX2_blended 1 = .ok (.iload_n 1, 1) := by decide +kernel
theorem dX2_blended_2 : decode cX2_blended 2 = .ok (.invokevirtual 38, 3) := by decide +kernel
theorem dX2_blended_5 : decode cX2_blended 5 = .ok (.getfield 59, 3) := by decide +kernel
theorem dX2_blended_8 : decode cX2_blended 8 = .ok (.aload_n 0, 1) := by decide +kernel
theorem dX2_blended_9 : decode cX2_blended 9 = .ok (.iload_n 2, 1) := by decide +kernel
theorem dX2_blended_10 : decode cX2_blended 10 = .ok (.invokevirtual 38, 3) := by decide +kernel
theorem dX2_blended_13 : decode cX2_blended 13 = .ok (.getfield 59, 3) := by decide +kernel
theorem dX2_blended_16 : decode cX2_blended 16 = .ok (.iadd, 1) := by decide +kernel
theorem dX2_blended_17 : decode cX2_blended 17 = .ok (.istore_n 3, 1) := by decide +kernel
theorem dX2_blended_18 : decode cX2_blended 18 = .ok (.iload_n 3, 1) := by decide +kernel
theorem dX2_blended_19 : decode cX2_blended 19 = .ok (.ifCond .le 25, 3) := by decide +kernel
theorem dX2_blended_22 : decode cX2_blended 22 = .ok (.aload_n 0, 1) := by decide +kernel
theorem dX2_blended_23 : decode cX2_blended 23 = .ok (.iload_n 1, 1) := by decide +kernel
theorem dX2_blended_24 : decode cX2_blended 24 = .ok (.invokevirtual 38, 3) := by decide +kernel
theorem dX2_blended_27 : decode cX2_blended 27 = .ok (.invokevirtual 91, 3) := by decide +kernel
theorem dX2_blended_30 : decode cX2_blended 30 = .ok (.aload_n 0, 1) := by decide +kernel
theorem dX2_blended_31 : decode cX2_blended 31 = .ok (.iload_n 2, 1) := by decide +kernel
theorem dX2_blended_32 : decode cX2_blended 32 = .ok (.invokevirtual 38, 3) := by decide +kernel
theorem dX2_blended_35 : decode cX2_blended 35 = .ok (.invokevirtual 91, 3) := by decide +kernel
theorem dX2_blended_38 : decode cX2_blended 38 = .ok (.iadd, 1) := by decide +kernel
theorem dX2_blended_39 : decode cX2_blended 39 = .ok (.iload_n 3, 1) := by decide +kernel
theorem dX2_blended_40 : decode cX2_blended 40 = .ok (.idiv, 1) := by decide +kernel
theorem dX2_blended_41 : decode cX2_blended 41 = .ok (.goto 5, 3) := by decide +kernel
theorem dX2_blended_44 : decode cX2_blended 44 = .ok (.bipush (-9), 2) := by decide +kernel
theorem dX2_blended_46 : decode cX2_blended 46 = .ok (.ireturn, 1) := by decide +kernel
theorem dX2_rateBy_0 : decode cX2_rateBy 0 = .ok (.iload_n 1, 1) := by decide +kernel
theorem dX2_rateBy_1 : decode cX2_rateBy 1 = .ok (.ifCond .eq 17, 3) := by decide +kernel
theorem dX2_rateBy_4 : decode cX2_rateBy 4 = .ok (.iconst 2, 1) := by decide +kernel
theorem dX2_rateBy_5 : decode cX2_rateBy 5 = .ok (.aload_n 0, 1) := by decide +kernel
theorem dX2_rateBy_6 : decode cX2_rateBy 6 = .ok (.getfield 26, 3) := by decide +kernel
theorem dX2_rateBy_9 : decode cX2_rateBy 9 = .ok (.imul, 1) := by decide +kernel
theorem dX2_rateBy_10 : decode cX2_rateBy 10 = .ok (.bipush 80, 2) := by decide +kernel
theorem dX2_rateBy_12 : decode cX2_rateBy 12 = .ok (.invokestatic 95, 3) := by decide +kernel
theorem dX2_rateBy_15 : decode cX2_rateBy 15 = .ok (.goto 7, 3) := by decide +kernel
theorem dX2_rateBy_18 : decode cX2_rateBy 18 = .ok (.aload_n 0, 1) := by decide +kernel
theorem dX2_rateBy_19 : decode cX2_rateBy 19 = .ok (.getfield 26, 3) := by decide +kernel
theorem dX2_rateBy_22 : decode cX2_rateBy 22 = .ok (.ireturn, 1) := by decide +kernel
theorem dX2_goOn_0 : decode cX2_goOn 0 = .ok (.iconst 0, 1) := by decide +kernel
theorem dX2_goOn_1 : decode cX2_goOn 1 = .ok (.istore_n 2, 1) := by decide +kernel
theorem dX2_goOn_2 : decode cX2_goOn 2 = .ok (.iload_n 2, 1) := by decide +kernel
theorem dX2_goOn_3 : decode cX2_goOn 3 = .ok (.iload_n 1, 1) := by decide +kernel
theorem dX2_goOn_4 : decode cX2_goOn 4 = .ok (.if_icmp .ge 80, 3) := by decide +kernel
theorem dX2_goOn_7 : decode cX2_goOn 7 = .ok (.aload_n 0, 1) := by decide +kernel
theorem dX2_goOn_8 : decode cX2_goOn 8 = .ok (.dup, 1) := by decide +kernel
theorem dX2_goOn_9 : decode cX2_goOn 9 = .ok (.getfield 35, 3) := by decide +kernel
theorem dX2_goOn_12 : decode cX2_goOn 12 = .ok (.iconst 1, 1) := by decide +kernel
theorem dX2_goOn_13 : decode cX2_goOn 13 = .ok (.iadd, 1) := by decide +kernel
theorem dX2_goOn_14 : decode cX2_goOn 14 = .ok (.putfield 35, 3) := by decide +kernel
theorem dX2_goOn_17 : decode cX2_goOn 17 = .ok (.aload_n 0, 1) := by decide +kernel
theorem dX2_goOn_18 : decode cX2_goOn 18 = .ok (.aload_n 0, 1) := by decide +kernel
theorem dX2_goOn_19 : decode cX2_goOn 19 = .ok (.getfield 29, 3) := by decide +kernel
theorem dX2_goOn_22 : decode cX2_goOn 22 = .ok (.ifCond .le 19, 3) := by decide +kernel
theorem dX2_goOn_25 : decode cX2_goOn 25 = .ok (.aload_n 0, 1) := by decide +kernel
theorem dX2_goOn_26 : decode cX2_goOn 26 = .ok (.getfield 35, 3) := by decide +kernel
theorem dX2_goOn_29 : decode cX2_goOn 29 = .ok (.aload_n 0, 1) := by decide +kernel
theorem dX2_goOn_30 : decode cX2_goOn 30 = .ok (.getfield 29, 3) := by decide +kernel
theorem dX2_goOn_33 : decode cX2_goOn 33 = .ok (.irem, 1) := by decide +kernel
theorem dX2_goOn_34 : decode cX2_goOn 34 = .ok (.ifCond .ne 7, 3) := by decide +kernel
theorem dX2_goOn_37 : decode cX2_goOn 37 = .ok (.iconst 1, 1) := by decide +kernel
theorem dX2_goOn_38 : decode cX2_goOn 38 = .ok (.goto 4, 3) := by decide +kernel
theorem dX2_goOn_41 : decode cX2_goOn 41 = .ok (.iconst 0, 1) := by decide +kernel
theorem dX2_goOn_42 : decode cX2_goOn 42 = .ok (.invokevirtual 100, 3) := by decide +kernel
theorem dX2_goOn_45 : decode cX2_goOn 45 = .ok (.istore_n 3, 1) := by decide +kernel
theorem dX2_goOn_46 : decode cX2_goOn 46 = .ok (.iconst 0, 1) := by decide +kernel
theorem dX2_goOn_47 : decode cX2_goOn 47 = .ok (.istore 4, 2) := by decide +kernel
theorem dX2_goOn_49 : decode cX2_goOn 49 = .ok (.iload 4, 2) := by decide +kernel
theorem dX2_goOn_51 : decode cX2_goOn 51 = .ok (.aload_n 0, 1) := by decide +kernel
theorem dX2_goOn_52 : decode cX2_goOn 52 = .ok (.getfield 22, 3) := by decide +kernel
theorem dX2_goOn_55 : decode cX2_goOn 55 = .ok (.if_icmp .ge 23, 3) := by decide +kernel
theorem dX2_goOn_58 : decode cX2_goOn 58 = .ok (.aload_n 0, 1) := by decide +kernel
theorem dX2_goOn_59 : decode cX2_goOn 59 = .ok (.iload 4, 2) := by decide +kernel
theorem dX2_goOn_61 : decode cX2_goOn 61 = .ok (.invokevirtual 38, 3) := by decide +kernel
theorem dX2_goOn_64 : decode cX2_goOn 64 = .ok (.iload_n 3, 1) := by decide +kernel
theorem dX2_goOn_65 : decode cX2_goOn 65 = .ok (.aload_n 0, 1) := by decide +kernel
theorem dX2_goOn_66 : decode cX2_goOn 66 = .ok (.getfield 35, 3) := by decide +kernel
theorem dX2_goOn_69 : decode cX2_goOn 69 = .ok (.invokevirtual 104, 3) := by decide +kernel
theorem dX2_goOn_72 : decode cX2_goOn 72 = .ok (.iinc 4 1, 3) := by decide +kernel
theorem dX2_goOn_75 : decode cX2_goOn 75 = .ok (.goto (-26), 3) := by decide +kernel
theorem dX2_goOn_78 : decode cX2_goOn 78 = .ok (.iinc 2 1, 3) := by decide +kernel
theorem dX2_goOn_81 : decode cX2_goOn 81 = .ok (.goto (-79), 3) := by decide +kernel
theorem dX2_goOn_84 : decode cX2_goOn 84 = .ok (.return_, 1) := by decide +kernel
theorem dX2_liveOn_0 : decode cX2_liveOn 0 = .ok (.iload_n 1, 1) := by decide +kernel
theorem dX2_liveOn_1 : decode cX2_liveOn 1 = .ok (.iconst 1, 1) := by decide +kernel
theorem dX2_liveOn_2 : decode cX2_liveOn 2 = .ok (.bipush 60, 2) := by decide +kernel
theorem dX2_liveOn_4 : decode cX2_liveOn 4 = .ok (.invokestatic 46, 3) := by decide +kernel
theorem dX2_liveOn_7 : decode cX2_liveOn 7 = .ok (.istore_n 2, 1) := by decide +kernel
theorem dX2_liveOn_8 : decode cX2_liveOn 8 = .ok (.iload_n 2, 1) := by decide +kernel
theorem dX2_liveOn_9 : decode cX2_liveOn 9 = .ok (.ifCond .ne 18, 3) := by decide +kernel
theorem dX2_liveOn_12 : decode cX2_liveOn 12 = .ok (.aload_n 0, 1) := by decide +kernel
theorem dX2_liveOn_13 : decode cX2_liveOn 13 = .ok (.getfield 35, 3) := by decide +kernel
theorem dX2_liveOn_16 : decode cX2_liveOn 16 = .ok (.iload_n 1, 1) := by decide +kernel
theorem dX2_liveOn_17 : decode cX2_liveOn 17 = .ok (.iadd, 1) := by decide +kernel
theorem dX2_liveOn_18 : decode cX2_liveOn 18 = .ok (.sipush 999, 3) := by decide +kernel
theorem dX2_liveOn_21 : decode cX2_liveOn 21 = .ok (.if_icmp .le 6, 3) := by decide +kernel
theorem dX2_liveOn_24 : decode cX2_liveOn 24 = .ok (.bipush (-6), 2) := by decide +kernel
theorem dX2_liveOn_26 : decode cX2_liveOn 26 = .ok (.istore_n 2, 1) := by decide +kernel
theorem dX2_liveOn_27 : decode cX2_liveOn 27 = .ok (.iload_n 2, 1) := by decide +kernel
theorem dX2_liveOn_28 : decode cX2_liveOn 28 = .ok (.ifCond .ne 8, 3) := by decide +kernel
theorem dX2_liveOn_31 : decode cX2_liveOn 31 = .ok (.aload_n 0, 1) := by decide +kernel
theorem dX2_liveOn_32 : decode cX2_liveOn 32 = .ok (.iload_n 1, 1) := by decide +kernel
theorem dX2_liveOn_33 : decode cX2_liveOn 33 = .ok (.invokevirtual 108, 3) := by decide +kernel
theorem dX2_liveOn_36 : decode cX2_liveOn 36 = .ok (.iload_n 2, 1) := by decide +kernel
theorem dX2_liveOn_37 : decode cX2_liveOn 37 = .ok (.ireturn, 1) := by decide +kernel
theorem dX2_allAmounts_0 : decode cX2_allAmounts 0 = .ok (.iconst 0, 1) := by decide +kernel
theorem dX2_allAmounts_1 : decode cX2_allAmounts 1 = .ok (.istore_n 1, 1) := by decide +kernel
theorem dX2_allAmounts_2 : decode cX2_allAmounts 2 = .ok (.iconst 0, 1) := by decide +kernel
theorem dX2_allAmounts_3 : decode cX2_allAmounts 3 = .ok (.istore_n 2, 1) := by decide +kernel
theorem dX2_allAmounts_4 : decode cX2_allAmounts 4 = .ok (.iload_n 2, 1) := by decide +kernel
theorem dX2_allAmounts_5 : decode cX2_allAmounts 5 = .ok (.aload_n 0, 1) := by decide +kernel
theorem dX2_allAmounts_6 : decode cX2_allAmounts 6 = .ok (.getfield 22, 3) := by decide +kernel
theorem dX2_allAmounts_9 : decode cX2_allAmounts 9 = .ok (.if_icmp .ge 20, 3) := by decide +kernel
theorem dX2_allAmounts_12 : decode cX2_allAmounts 12 = .ok (.iload_n 1, 1) := by decide +kernel
theorem dX2_allAmounts_13 : decode cX2_allAmounts 13 = .ok (.aload_n 0, 1) := by decide +kernel
theorem dX2_allAmounts_14 : decode cX2_allAmounts 14 = .ok (.iload_n 2, 1) := by decide +kernel
theorem dX2_allAmounts_15 : decode cX2_allAmounts 15 = .ok (.invokevirtual 38, 3) := by decide +kernel
theorem dX2_allAmounts_18 : decode cX2_allAmounts 18 = .ok (.getfield 59, 3) := by decide +kernel
theorem dX2_allAmounts_21 : decode cX2_allAmounts 21 = .ok (.iadd, 1) := by decide +kernel
theorem dX2_allAmounts_22 : decode cX2_allAmounts 22 = .ok (.istore_n 1, 1) := by decide +kernel
theorem dX2_allAmounts_23 : decode cX2_allAmounts 23 = .ok (.iinc 2 1, 3) := by decide +kernel
theorem dX2_allAmounts_26 : decode cX2_allAmounts 26 = .ok (.goto (-22), 3) := by decide +kernel
theorem dX2_allAmounts_29 : decode cX2_allAmounts 29 = .ok (.iload_n 1, 1) := by decide +kernel
theorem dX2_allAmounts_30 : decode cX2_allAmounts 30 = .ok (.ireturn, 1) := by decide +kernel
theorem dX2_allTaken_0 : decode cX2_allTaken 0 = .ok (.iconst 0, 1) := by decide +kernel
theorem dX2_allTaken_1 : decode cX2_allTaken 1 = .ok (.istore_n 1, 1) := by decide +kernel
theorem dX2_allTaken_2 : decode cX2_allTaken 2 = .ok (.iconst 0, 1) := by decide +kernel
theorem dX2_allTaken_3 : decode cX2_allTaken 3 = .ok (.istore_n 2, 1) := by decide +kernel
theorem dX2_allTaken_4 : decode cX2_allTaken 4 = .ok (.iload_n 2, 1) := by decide +kernel
theorem dX2_allTaken_5 : decode cX2_allTaken 5 = .ok (.aload_n 0, 1) := by decide +kernel
theorem dX2_allTaken_6 : decode cX2_allTaken 6 = .ok (.getfield 22, 3) := by decide +kernel
theorem dX2_allTaken_9 : decode cX2_allTaken 9 = .ok (.if_icmp .ge 20, 3) := by decide +kernel
theorem dX2_allTaken_12 : decode cX2_allTaken 12 = .ok (.iload_n 1, 1) := by decide +kernel
theorem dX2_allTaken_13 : decode cX2_allTaken 13 = .ok (.aload_n 0, 1) := by decide +kernel
theorem dX2_allTaken_14 : decode cX2_allTaken 14 = .ok (.iload_n 2, 1) := by decide +kernel
theorem dX2_allTaken_15 : decode cX2_allTaken 15 = .ok (.invokevirtual 38, 3) := by decide +kernel
theorem dX2_allTaken_18 : decode cX2_allTaken 18 = .ok (.getfield 68, 3) := by decide +kernel
theorem dX2_allTaken_21 : decode cX2_allTaken 21 = .ok (.iadd, 1) := by decide +kernel
theorem dX2_allTaken_22 : decode cX2_allTaken 22 = .ok (.istore_n 1, 1) := by decide +kernel
theorem dX2_allTaken_23 : decode cX2_allTaken 23 = .ok (.iinc 2 1, 3) := by decide +kernel
theorem dX2_allTaken_26 : decode cX2_allTaken 26 = .ok (.goto (-22), 3) := by decide +kernel
theorem dX2_allTaken_29 : decode cX2_allTaken 29 = .ok (.iload_n 1, 1) := by decide +kernel
theorem dX2_allTaken_30 : decode cX2_allTaken 30 = .ok (.ireturn, 1) := by decide +kernel
theorem dX2_fullest_0 : decode cX2_fullest 0 = .ok (.bipush (-9), 2) := by decide +kernel
theorem dX2_fullest_2 : decode cX2_fullest 2 = .ok (.istore_n 1, 1) := by decide +kernel
theorem dX2_fullest_3 : decode cX2_fullest 3 = .ok (.iconst 0, 1) := by decide +kernel
theorem dX2_fullest_4 : decode cX2_fullest 4 = .ok (.istore_n 2, 1) := by decide +kernel
theorem dX2_fullest_5 : decode cX2_fullest 5 = .ok (.iload_n 2, 1) := by decide +kernel
theorem dX2_fullest_6 : decode cX2_fullest 6 = .ok (.aload_n 0, 1) := by decide +kernel
theorem dX2_fullest_7 : decode cX2_fullest 7 = .ok (.getfield 22, 3) := by decide +kernel
theorem dX2_fullest_10 : decode cX2_fullest 10 = .ok (.if_icmp .ge 34, 3) := by decide +kernel
theorem dX2_fullest_13 : decode cX2_fullest 13 = .ok (.iload_n 1, 1) := by decide +kernel
theorem dX2_fullest_14 : decode cX2_fullest 14 = .ok (.ifCond .lt 22, 3) := by decide +kernel
theorem dX2_fullest_17 : decode cX2_fullest 17 = .ok (.aload_n 0, 1) := by decide +kernel
theorem dX2_fullest_18 : decode cX2_fullest 18 = .ok (.iload_n 2, 1) := by decide +kernel
theorem dX2_fullest_19 : decode cX2_fullest 19 = .ok (.invokevirtual 38, 3) := by decide +kernel
theorem dX2_fullest_22 : decode cX2_fullest 22 = .ok (.getfield 59, 3) := by decide +kernel
theorem dX2_fullest_25 : decode cX2_fullest 25 = .ok (.aload_n 0, 1) := by decide +kernel
theorem dX2_fullest_26 : decode cX2_fullest 26 = .ok (.iload_n 1, 1) := by decide +kernel
theorem dX2_fullest_27 : decode cX2_fullest 27 = .ok (.invokevirtual 38, 3) := by decide +kernel
theorem dX2_fullest_30 : decode cX2_fullest 30 = .ok (.getfield 59, 3) := by decide +kernel
theorem dX2_fullest_33 : decode cX2_fullest 33 = .ok (.if_icmp .le 5, 3) := by decide +kernel
theorem dX2_fullest_36 : decode cX2_fullest 36 = .ok (.iload_n 2, 1) := by decide +kernel
theorem dX2_fullest_37 : decode cX2_fullest 37 = .ok (.istore_n 1, 1) := by decide +kernel
theorem dX2_fullest_38 : decode cX2_fullest 38 = .ok (.iinc 2 1, 3) := by decide +kernel
theorem dX2_fullest_41 : decode cX2_fullest 41 = .ok (.goto (-36), 3) := by decide +kernel
theorem dX2_fullest_44 : decode cX2_fullest 44 = .ok (.iload_n 1, 1) := by decide +kernel
theorem dX2_fullest_45 : decode cX2_fullest 45 = .ok (.ireturn, 1) := by decide +kernel
theorem dX2_dutyOf_0 : decode cX2_dutyOf 0 = .ok (.aload_n 0, 1) := by decide +kernel
theorem dX2_dutyOf_1 : decode cX2_dutyOf 1 = .ok (.iload_n 1, 1) := by decide +kernel
theorem dX2_dutyOf_2 : decode cX2_dutyOf 2 = .ok (.invokevirtual 38, 3) := by decide +kernel
theorem dX2_dutyOf_5 : decode cX2_dutyOf 5 = .ok (.getfield 59, 3) := by decide +kernel
theorem dX2_dutyOf_8 : decode cX2_dutyOf 8 = .ok (.aload_n 0, 1) := by decide +kernel
theorem dX2_dutyOf_9 : decode cX2_dutyOf 9 = .ok (.iload_n 1, 1) := by decide +kernel
theorem dX2_dutyOf_10 : decode cX2_dutyOf 10 = .ok (.invokevirtual 38, 3) := by decide +kernel
theorem dX2_dutyOf_13 : decode cX2_dutyOf 13 = .ok (.getfield 68, 3) := by decide +kernel
theorem dX2_dutyOf_16 : decode cX2_dutyOf 16 = .ok (.iadd, 1) := by decide +kernel
theorem dX2_dutyOf_17 : decode cX2_dutyOf 17 = .ok (.bipush 10, 2) := by decide +kernel
theorem dX2_dutyOf_19 : decode cX2_dutyOf 19 = .ok (.idiv, 1) := by decide +kernel
theorem dX2_dutyOf_20 : decode cX2_dutyOf 20 = .ok (.aload_n 0, 1) := by decide +kernel
theorem dX2_dutyOf_21 : decode cX2_dutyOf 21 = .ok (.getfield 32, 3) := by decide +kernel
theorem dX2_dutyOf_24 : decode cX2_dutyOf 24 = .ok (.imul, 1) := by decide +kernel
theorem dX2_dutyOf_25 : decode cX2_dutyOf 25 = .ok (.ireturn, 1) := by decide +kernel
theorem dX2_dutyOfAll_0 : decode cX2_dutyOfAll 0 = .ok (.iconst 0, 1) := by decide +kernel
theorem dX2_dutyOfAll_1 : decode cX2_dutyOfAll 1 = .ok (.istore_n 1, 1) := by decide +kernel
theorem dX2_dutyOfAll_2 : decode cX2_dutyOfAll 2 = .ok (.iconst 0, 1) := by decide +kernel
theorem dX2_dutyOfAll_3 : decode cX2_dutyOfAll 3 = .ok (.istore_n 2, 1) := by decide +kernel
theorem dX2_dutyOfAll_4 : decode cX2_dutyOfAll 4 = .ok (.iload_n 2, 1) := by decide +kernel
theorem dX2_dutyOfAll_5 : decode cX2_dutyOfAll 5 = .ok (.aload_n 0, 1) := by decide +kernel
theorem dX2_dutyOfAll_6 : decode cX2_dutyOfAll 6 = .ok (.getfield 22, 3) := by decide +kernel
theorem dX2_dutyOfAll_9 : decode cX2_dutyOfAll 9 = .ok (.if_icmp .ge 17, 3) := by decide +kernel
theorem dX2_dutyOfAll_12 : decode cX2_dutyOfAll 12 = .ok (.iload_n 1, 1) := by decide +kernel
theorem dX2_dutyOfAll_13 : decode cX2_dutyOfAll 13 = .ok (.aload_n 0, 1) := by decide +kernel
theorem dX2_dutyOfAll_14 : decode cX2_dutyOfAll 14 = .ok (.iload_n 2, 1) := by decide +kernel
theorem dX2_dutyOfAll_15 : decode cX2_dutyOfAll 15 = .ok (.invokevirtual 111, 3) := by decide +kernel
theorem dX2_dutyOfAll_18 : decode cX2_dutyOfAll 18 = .ok (.iadd, 1) := by decide +kernel
theorem dX2_dutyOfAll_19 : decode cX2_dutyOfAll 19 = .ok (.istore_n 1, 1) := by decide +kernel
theorem dX2_dutyOfAll_20 : decode cX2_dutyOfAll 20 = .ok (.iinc 2 1, 3) := by decide +kernel
theorem dX2_dutyOfAll_23 : decode cX2_dutyOfAll 23 = .ok (.goto (-19), 3) := by decide +kernel
theorem dX2_dutyOfAll_26 : decode cX2_dutyOfAll 26 = .ok (.iload_n 1, 1) := by decide +kernel
theorem dX2_dutyOfAll_27 : decode cX2_dutyOfAll 27 = .ok (.ireturn, 1) := by decide +kernel
theorem dX3_letter_0 : decode cX3_letter 0 = .ok (.iload_n 1, 1) := by decide +kernel
theorem dX3_letter_1 : decode cX3_letter 1 = .ok (.iconst 0, 1) := by decide +kernel
theorem dX3_letter_2 : decode cX3_letter 2 = .ok (.sipush 255, 3) := by decide +kernel
theorem dX3_letter_5 : decode cX3_letter 5 = .ok (.invokestatic 44, 3) := by decide +kernel
theorem dX3_letter_8 : decode cX3_letter 8 = .ok (.istore_n 2, 1) := by decide +kernel
theorem dX3_letter_9 : decode cX3_letter 9 = .ok (.iload_n 2, 1) := by decide +kernel
theorem dX3_letter_10 : decode cX3_letter 10 = .ok (.ifCond .ne 16, 3) := by decide +kernel
theorem dX3_letter_13 : decode cX3_letter 13 = .ok (.aload_n 0, 1) := by decide +kernel
theorem dX3_letter_14 : decode cX3_letter 14 = .ok (.getfield 29, 3) := by decide +kernel
theorem dX3_letter_17 : decode cX3_letter 17 = .ok (.invokevirtual 48, 3) := by decide +kernel
theorem dX3_letter_20 : decode cX3_letter 20 = .ok (.ifCond .eq 6, 3) := by decide +kernel
theorem dX3_letter_23 : decode cX3_letter 23 = .ok (.bipush (-6), 2) := by decide +kernel
theorem dX3_letter_25 : decode cX3_letter 25 = .ok (.istore_n 2, 1) := by decide +kernel
theorem dX3_letter_26 : decode cX3_letter 26 = .ok (.iload_n 2, 1) := by decide +kernel
theorem dX3_letter_27 : decode cX3_letter 27 = .ok (.ifCond .ne 14, 3) := by decide +kernel
theorem dX3_letter_30 : decode cX3_letter 30 = .ok (.aload_n 0, 1) := by decide +kernel
theorem dX3_letter_31 : decode cX3_letter 31 = .ok (.getfield 29, 3) := by decide +kernel
theorem dX3_letter_34 : decode cX3_letter 34 = .ok (.iload_n 1, 1) := by decide +kernel
theorem dX3_letter_35 : decode cX3_letter 35 = .ok (.invokevirtual 52, 3) := by decide +kernel
theorem dX3_letter_38 : decode cX3_letter 38 = .ok (.goto 8, 3) := by decide +kernel
theorem dX3_letter_41 : decode cX3_letter 41 = .ok (.aload_n 0, 1) := by decide +kernel
theorem dX3_letter_42 : decode cX3_letter 42 = .ok (.iload_n 2, 1) := by decide +kernel
theorem dX3_letter_43 : decode cX3_letter 43 = .ok (.invokevirtual 56, 3) := by decide +kernel
theorem dX3_letter_46 : decode cX3_letter 46 = .ok (.ireturn, 1) := by decide +kernel
theorem dX3_town_0 : decode cX3_town 0 = .ok (.aload_n 0, 1) := by decide +kernel
theorem dX3_town_1 : decode cX3_town 1 = .ok (.invokevirtual 59, 3) := by decide +kernel
theorem dX3_town_4 : decode cX3_town 4 = .ok (.istore_n 1, 1) := by decide +kernel
theorem dX3_town_5 : decode cX3_town 5 = .ok (.aload_n 0, 1) := by decide +kernel
theorem dX3_town_6 : decode cX3_town 6 = .ok (.getfield 29, 3) := by decide +kernel
theorem dX3_town_9 : decode cX3_town 9 = .ok (.invokevirtual 63, 3) := by decide +kernel
theorem dX3_town_12 : decode cX3_town 12 = .ok (.iload_n 1, 1) := by decide +kernel
theorem dX3_town_13 : decode cX3_town 13 = .ok (.ireturn, 1) := by decide +kernel
theorem dX3_cask_0 : decode cX3_cask 0 = .ok (.aload_n 0, 1) := by decide +kernel
theorem dX3_cask_1 : decode cX3_cask 1 = .ok (.getfield 10, 3) := by decide +kernel
theorem dX3_cask_4 : decode cX3_cask 4 = .ok (.iload_n 1, 1) := by decide +kernel
theorem dX3_cask_5 : decode cX3_cask 5 = .ok (.invokevirtual 66, 3) := by decide +kernel
theorem dX3_cask_8 : decode cX3_cask 8 = .ok (.iload_n 2, 1) := by decide +kernel
theorem dX3_cask_9 : decode cX3_cask 9 = .ok (.iconst 5, 1) := by decide +kernel
theorem dX3_cask_10 : decode cX3_cask 10 = .ok (.invokestatic 69, 3) := by decide +kernel
theorem dX3_cask_13 : decode cX3_cask 13 = .ok (.iconst 0, 1) := by decide +kernel
theorem dX3_cask_14 : decode cX3_cask 14 = .ok (.invokestatic 73, 3) := by decide +kernel
theorem dX3_cask_17 : decode cX3_cask 17 = .ok (.istore_n 3, 1) := by decide +kernel
theorem dX3_cask_18 : decode cX3_cask 18 = .ok (.iload_n 3, 1) := by decide +kernel
theorem dX3_cask_19 : decode cX3_cask 19 = .ok (.ifCond .eq 9, 3) := by decide +kernel
theorem dX3_cask_22 : decode cX3_cask 22 = .ok (.aload_n 0, 1) := by decide +kernel
theorem dX3_cask_23 : decode cX3_cask 23 = .ok (.iload_n 3, 1) := by decide +kernel
theorem dX3_cask_24 : decode cX3_cask 24 = .ok (.invokevirtual 56, 3) := by decide +kernel
theorem dX3_cask_27 : decode cX3_cask 27 = .ok (.ireturn, 1) := by decide +kernel
theorem dX3_cask_28 : decode cX3_cask 28 = .ok (.aload_n 0, 1) := by decide +kernel
theorem dX3_cask_29 : decode cX3_cask 29 = .ok (.getfield 10, 3) := by decide +kernel
theorem dX3_cask_32 : decode cX3_cask 32 = .ok (.iload_n 1, 1) := by decide +kernel
theorem dX3_cask_33 : decode cX3_cask 33 = .ok (.invokevirtual 76, 3) := by decide +kernel
theorem dX3_cask_36 : decode cX3_cask 36 = .ok (.astore 4, 2) := by decide +kernel
theorem dX3_cask_38 : decode cX3_cask 38 = .ok (.iload_n 2, 1) := by decide +kernel
theorem dX3_cask_39 : decode cX3_cask 39 = .ok (.tableswitch 63 0 4 #[33, 39, 45, 51, 57], 33) := by decide +kernel
theorem dX3_cask_72 : decode cX3_cask 72 = .ok (.aload 4, 2) := by decide +kernel
theorem dX3_cask_74 : decode cX3_cask 74 = .ok (.getfield 80, 3) := by decide +kernel
theorem dX3_cask_77 : decode cX3_cask 77 = .ok (.ireturn, 1) := by decide +kernel
theorem dX3_cask_78 : decode cX3_cask 78 = .ok (.aload 4, 2) := by decide +kernel
theorem dX3_cask_80 : decode cX3_cask 80 = .ok (.getfield 85, 3) := by decide +kernel
theorem dX3_cask_83 : decode cX3_cask 83 = .ok (.ireturn, 1) := by decide +kernel
theorem dX3_cask_84 : decode cX3_cask 84 = .ok (.aload 4, 2) := by decide +kernel
theorem dX3_cask_86 : decode cX3_cask 86 = .ok (.getfield 88, 3) := by decide +kernel
theorem dX3_cask_89 : decode cX3_cask 89 = .ok (.ireturn, 1) := by decide +kernel
theorem dX3_cask_90 : decode cX3_cask 90 = .ok (.aload 4, 2) := by decide +kernel
theorem dX3_cask_92 : decode cX3_cask 92 = .ok (.getfield 91, 3) := by decide +kernel
theorem dX3_cask_95 : decode cX3_cask 95 = .ok (.ireturn, 1) := by decide +kernel
theorem dX3_cask_96 : decode cX3_cask 96 = .ok (.aload 4, 2) := by decide +kernel
theorem dX3_cask_98 : decode cX3_cask 98 = .ok (.getfield 94, 3) := by decide +kernel
theorem dX3_cask_101 : decode cX3_cask 101 = .ok (.ireturn, 1) := by decide +kernel
theorem dX3_cask_102 : decode cX3_cask 102 = .ok (.aload 4, 2) := by decide +kernel
theorem dX3_cask_104 : decode cX3_cask 104 = .ok (.getfield 97, 3) := by decide +kernel
theorem dX3_cask_107 : decode cX3_cask 107 = .ok (.ireturn, 1) := by decide +kernel
theorem dX3_set_0 : decode cX3_set 0 = .ok (.aload_n 0, 1) := by decide +kernel
theorem dX3_set_1 : decode cX3_set 1 = .ok (.getfield 10, 3) := by decide +kernel
theorem dX3_set_4 : decode cX3_set 4 = .ok (.iload_n 1, 1) := by decide +kernel
theorem dX3_set_5 : decode cX3_set 5 = .ok (.invokevirtual 100, 3) := by decide +kernel
theorem dX3_set_8 : decode cX3_set 8 = .ok (.istore_n 3, 1) := by decide +kernel
theorem dX3_set_9 : decode cX3_set 9 = .ok (.aload_n 0, 1) := by decide +kernel
theorem dX3_set_10 : decode cX3_set 10 = .ok (.getfield 10, 3) := by decide +kernel
theorem dX3_set_13 : decode cX3_set 13 = .ok (.iload_n 1, 1) := by decide +kernel
theorem dX3_set_14 : decode cX3_set 14 = .ok (.iload_n 2, 1) := by decide +kernel
theorem dX3_set_15 : decode cX3_set 15 = .ok (.invokevirtual 103, 3) := by decide +kernel
theorem dX3_set_18 : decode cX3_set 18 = .ok (.istore 4, 2) := by decide +kernel
theorem dX3_set_20 : decode cX3_set 20 = .ok (.iload 4, 2) := by decide +kernel
theorem dX3_set_22 : decode cX3_set 22 = .ok (.ifCond .ne 7, 3) := by decide +kernel
theorem dX3_set_25 : decode cX3_set 25 = .ok (.iload_n 3, 1) := by decide +kernel
theorem dX3_set_26 : decode cX3_set 26 = .ok (.goto 9, 3) := by decide +kernel
theorem dX3_set_29 : decode cX3_set 29 = .ok (.aload_n 0, 1) := by decide +kernel
theorem dX3_set_30 : decode cX3_set 30 = .ok (.iload 4, 2) := by decide +kernel
theorem dX3_set_32 : decode cX3_set 32 = .ok (.invokevirtual 56, 3) := by decide +kernel
theorem dX3_set_35 : decode cX3_set 35 = .ok (.ireturn, 1) := by decide +kernel
theorem dX3_fill_0 : decode cX3_fill 0 = .ok (.aload_n 0, 1) := by decide +kernel
theorem dX3_fill_1 : decode cX3_fill 1 = .ok (.getfield 10, 3) := by decide +kernel
theorem dX3_fill_4 : decode cX3_fill 4 = .ok (.iload_n 1, 1) := by decide +kernel
theorem dX3_fill_5 : decode cX3_fill 5 = .ok (.invokevirtual 76, 3) := by decide +kernel
theorem dX3_fill_8 : decode cX3_fill 8 = .ok (.astore_n 3, 1) := by decide +kernel
theorem dX3_fill_9 : decode cX3_fill 9 = .ok (.aload_n 0, 1) := by decide +kernel
theorem dX3_fill_10 : decode cX3_fill 10 = .ok (.getfield 10, 3) := by decide +kernel
theorem dX3_fill_13 : decode cX3_fill 13 = .ok (.iload_n 1, 1) := by decide +kernel
theorem dX3_fill_14 : decode cX3_fill 14 = .ok (.invokevirtual 66, 3) := by decide +kernel
theorem dX3_fill_17 : decode cX3_fill 17 = .ok (.iload_n 2, 1) := by decide +kernel
theorem dX3_fill_18 : decode cX3_fill 18 = .ok (.iconst 0, 1) := by decide +kernel
theorem dX3_fill_19 : decode cX3_fill 19 = .ok (.aload_n 3, 1) := by decide +kernel
theorem dX3_fill_20 : decode cX3_fill 20 = .ok (.getfield 85, 3) := by decide +kernel
theorem dX3_fill_23 : decode cX3_fill 23 = .ok (.invokestatic 44, 3) := by decide +kernel
theorem dX3_fill_26 : decode cX3_fill 26 = .ok (.iconst 0, 1) := by decide +kernel
theorem dX3_fill_27 : decode cX3_fill 27 = .ok (.invokestatic 73, 3) := by decide +kernel
theorem dX3_fill_30 : decode cX3_fill 30 = .ok (.istore 4, 2) := by decide +kernel
theorem dX3_fill_32 : decode cX3_fill 32 = .ok (.iload 4, 2) := by decide +kernel
theorem dX3_fill_34 : decode cX3_fill 34 = .ok (.ifCond .eq 10, 3) := by decide +kernel
theorem dX3_fill_37 : decode cX3_fill 37 = .ok (.aload_n 0, 1) := by decide +kernel
theorem dX3_fill_38 : decode cX3_fill 38 = .ok (.iload 4, 2) := by decide +kernel
theorem dX3_fill_40 : decode cX3_fill 40 = .ok (.invokevirtual 56, 3) := by decide +kernel
theorem dX3_fill_43 : decode cX3_fill 43 = .ok (.ireturn, 1) := by decide +kernel
theorem dX3_fill_44 : decode cX3_fill 44 = .ok (.aload_n 3, 1) := by decide +kernel
theorem dX3_fill_45 : decode cX3_fill 45 = .ok (.getfield 88, 3) := by decide +kernel
theorem dX3_fill_48 : decode cX3_fill 48 = .ok (.istore 5, 2) := by decide +kernel
theorem dX3_fill_50 : decode cX3_fill 50 = .ok (.aload_n 3, 1) := by decide +kernel
theorem dX3_fill_51 : decode cX3_fill 51 = .ok (.iload_n 2, 1) := by decide +kernel
theorem dX3_fill_52 : decode cX3_fill 52 = .ok (.putfield 88, 3) := by decide +kernel
theorem dX3_fill_55 : decode cX3_fill 55 = .ok (.iload 5, 2) := by decide +kernel
theorem dX3_fill_57 : decode cX3_fill 57 = .ok (.ireturn, 1) := by decide +kernel
theorem dX3_takes_0 : decode cX3_takes 0 = .ok (.aload_n 0, 1) := by decide +kernel
theorem dX3_takes_1 : decode cX3_takes 1 = .ok (.getfield 10, 3) := by decide +kernel
theorem dX3_takes_4 : decode cX3_takes 4 = .ok (.iload_n 1, 1) := by decide +kernel
theorem dX3_takes_5 : decode cX3_takes 5 = .ok (.invokevirtual 66, 3) := by decide +kernel
theorem dX3_takes_8 : decode cX3_takes 8 = .ok (.istore 4, 2) := by decide +kernel
theorem dX3_takes_10 : decode cX3_takes 10 = .ok (.iload 4, 2) := by decide +kernel
theorem dX3_takes_12 : decode cX3_takes 12 = .ok (.ifCond .ne 37, 3) := by decide +kernel
theorem dX3_takes_15 : decode cX3_takes 15 = .ok (.iload_n 2, 1) := by decide +kernel
theorem dX3_takes_16 : decode cX3_takes 16 = .ok (.ifCond .lt 7, 3) := by decide +kernel
theorem dX3_takes_19 : decode cX3_takes 19 = .ok (.iload_n 3, 1) := by decide +kernel
theorem dX3_takes_20 : decode cX3_takes 20 = .ok (.ifCond .ge 8, 3) := by decide +kernel
theorem dX3_takes_23 : decode cX3_takes 23 = .ok (.bipush (-4), 2) := by decide +kernel
theorem dX3_takes_25 : decode cX3_takes 25 = .ok (.goto 22, 3) := by decide +kernel
theorem dX3_takes_28 : decode cX3_takes 28 = .ok (.iload_n 2, 1) := by decide +kernel
theorem dX3_takes_29 : decode cX3_takes 29 = .ok (.sipush 400, 3) := by decide +kernel
theorem dX3_takes_32 : decode cX3_takes 32 = .ok (.if_icmp .gt 9, 3) := by decide +kernel
theorem dX3_takes_35 : decode cX3_takes 35 = .ok (.iload_n 3, 1) := by decide +kernel
theorem dX3_takes_36 : decode cX3_takes 36 = .ok (.bipush 80, 2) := by decide +kernel
theorem dX3_takes_38 : decode cX3_takes 38 = .ok (.if_icmp .le 8, 3) := by decide +kernel
theorem dX3_takes_41 : decode cX3_takes 41 = .ok (.bipush (-6), 2) := by decide +kernel
theorem dX3_takes_43 : decode cX3_takes 43 = .ok (.goto 4, 3) := by decide +kernel
theorem dX3_takes_46 : decode cX3_takes 46 = .ok (.iconst 0, 1) := by decide +kernel
theorem dX3_takes_47 : decode cX3_takes 47 = .ok (.istore 4, 2) := by decide +kernel
theorem dX3_takes_49 : decode cX3_takes 49 = .ok (.iload 4, 2) := by decide +kernel
theorem dX3_takes_51 : decode cX3_takes 51 = .ok (.ifCond .ne 19, 3) := by decide +kernel
theorem dX3_takes_54 : decode cX3_takes 54 = .ok (.aload_n 0, 1) := by decide +kernel
theorem dX3_takes_55 : decode cX3_takes 55 = .ok (.getfield 10, 3) := by decide +kernel
theorem dX3_takes_58 : decode cX3_takes 58 = .ok (.iload_n 1, 1) := by decide +kernel
theorem dX3_takes_59 : decode cX3_takes 59 = .ok (.invokevirtual 76, 3) := by decide +kernel
theorem dX3_takes_62 : decode cX3_takes 62 = .ok (.iload_n 2, 1) := by decide +kernel
theorem dX3_takes_63 : decode cX3_takes 63 = .ok (.iload_n 3, 1) := by decide +kernel
theorem dX3_takes_64 : decode cX3_takes 64 = .ok (.invokevirtual 106, 3) := by decide +kernel
theorem dX3_takes_67 : decode cX3_takes 67 = .ok (.goto 9, 3) := by decide +kernel
theorem dX3_takes_70 : decode cX3_takes 70 = .ok (.aload_n 0, 1) := by decide +kernel
theorem dX3_takes_71 : decode cX3_takes 71 = .ok (.iload 4, 2) := by decide +kernel
theorem dX3_takes_73 : decode cX3_takes 73 = .ok (.invokevirtual 56, 3) := by decide +kernel
theorem dX3_takes_76 : decode cX3_takes 76 = .ok (.ireturn, 1) := by decide +kernel
theorem dX3_pour_0 : decode cX3_pour 0 = .ok (.aload_n 0, 1) := by decide +kernel
theorem dX3_pour_1 : decode cX3_pour 1 = .ok (.getfield 10, 3) := by decide +kernel
theorem dX3_pour_4 : decode cX3_pour 4 = .ok (.iload_n 1, 1) := by decide +kernel
theorem dX3_pour_5 : decode cX3_pour 5 = .ok (.iload_n 2, 1) := by decide +kernel
theorem dX3_pour_6 : decode cX3_pour 6 = .ok (.iload_n 3, 1) := by decide +kernel
theorem dX3_pour_7 : decode cX3_pour 7 = .ok (.invokevirtual 109, 3) := by decide +kernel
theorem dX3_pour_10 : decode cX3_pour 10 = .ok (.istore 4, 2) := by decide +kernel
theorem dX3_pour_12 : decode cX3_pour 12 = .ok (.iload 4, 2) := by decide +kernel
theorem dX3_pour_14 : decode cX3_pour 14 = .ok (.ifCond .ne 17, 3) := by decide +kernel
theorem dX3_pour_17 : decode cX3_pour 17 = .ok (.aload_n 0, 1) := by decide +kernel
theorem dX3_pour_18 : decode cX3_pour 18 = .ok (.getfield 10, 3) := by decide +kernel
theorem dX3_pour_21 : decode cX3_pour 21 = .ok (.iload_n 2, 1) := by decide +kernel
theorem dX3_pour_22 : decode cX3_pour 22 = .ok (.invokevirtual 76, 3) := by decide +kernel
theorem dX3_pour_25 : decode cX3_pour 25 = .ok (.getfield 91, 3) := by decide +kernel
theorem dX3_pour_28 : decode cX3_pour 28 = .ok (.goto 9, 3) := by decide +kernel
theorem dX3_pour_31 : decode cX3_pour 31 = .ok (.aload_n 0, 1) := by decide +kernel
theorem dX3_pour_32 : decode cX3_pour 32 = .ok (.iload 4, 2) := by decide +kernel
theorem dX3_pour_34 : decode cX3_pour 34 = .ok (.invokevirtual 56, 3) := by decide +kernel
theorem dX3_pour_37 : decode cX3_pour 37 = .ok (.ireturn, 1) := by decide +kernel
theorem dX3_years_0 : decode cX3_years 0 = .ok (.aload_n 0, 1) := by decide +kernel
theorem dX3_years_1 : decode cX3_years 1 = .ok (.getfield 10, 3) := by decide +kernel
theorem dX3_years_4 : decode cX3_years 4 = .ok (.iload_n 1, 1) := by decide +kernel
theorem dX3_years_5 : decode cX3_years 5 = .ok (.invokevirtual 112, 3) := by decide +kernel
theorem dX3_years_8 : decode cX3_years 8 = .ok (.istore_n 2, 1) := by decide +kernel
theorem dX3_years_9 : decode cX3_years 9 = .ok (.iload_n 2, 1) := by decide +kernel
theorem dX3_years_10 : decode cX3_years 10 = .ok (.ifCond .ne 13, 3) := by decide +kernel
theorem dX3_years_13 : decode cX3_years 13 = .ok (.aload_n 0, 1) := by decide +kernel
theorem dX3_years_14 : decode cX3_years 14 = .ok (.getfield 10, 3) := by decide +kernel
theorem dX3_years_17 : decode cX3_years 17 = .ok (.getfield 115, 3) := by decide +kernel
theorem dX3_years_20 : decode cX3_years 20 = .ok (.goto 8, 3) := by decide +kernel
theorem dX3_years_23 : decode cX3_years 23 = .ok (.aload_n 0, 1) := by decide +kernel
theorem dX3_years_24 : decode cX3_years 24 = .ok (.iload_n 2, 1) := by decide +kernel
theorem dX3_years_25 : decode cX3_years 25 = .ok (.invokevirtual 56, 3) := by decide +kernel
theorem dX3_years_28 : decode cX3_years 28 = .ok (.ireturn, 1) := by decide +kernel
theorem dX3_behind_0 : decode cX3_behind 0 = .ok (.aload_n 0, 1) := by decide +kernel
theorem dX3_behind_1 : decode cX3_behind 1 = .ok (.getfield 10, 3) := by decide +kernel
theorem dX3_behind_4 : decode cX3_behind 4 = .ok (.iload_n 1, 1) := by decide +kernel
theorem dX3_behind_5 : decode cX3_behind 5 = .ok (.invokevirtual 66, 3) := by decide +kernel
theorem dX3_behind_8 : decode cX3_behind 8 = .ok (.iload_n 2, 1) := by decide +kernel
theorem dX3_behind_9 : decode cX3_behind 9 = .ok (.invokestatic 118, 3) := by decide +kernel
theorem dX3_behind_12 : decode cX3_behind 12 = .ok (.iload_n 3, 1) := by decide +kernel
theorem dX3_behind_13 : decode cX3_behind 13 = .ok (.iconst 2, 1) := by decide +kernel
theorem dX3_behind_14 : decode cX3_behind 14 = .ok (.invokestatic 69, 3) := by decide +kernel
theorem dX3_behind_17 : decode cX3_behind 17 = .ok (.invokestatic 73, 3) := by decide +kernel
theorem dX3_behind_20 : decode cX3_behind 20 = .ok (.istore 4, 2) := by decide +kernel
theorem dX3_behind_22 : decode cX3_behind 22 = .ok (.iload 4, 2) := by decide +kernel
theorem dX3_behind_24 : decode cX3_behind 24 = .ok (.ifCond .eq 10, 3) := by decide +kernel
theorem dX3_behind_27 : decode cX3_behind 27 = .ok (.aload_n 0, 1) := by decide +kernel
theorem dX3_behind_28 : decode cX3_behind 28 = .ok (.iload 4, 2) := by decide +kernel
theorem dX3_behind_30 : decode cX3_behind 30 = .ok (.invokevirtual 56, 3) := by decide +kernel
theorem dX3_behind_33 : decode cX3_behind 33 = .ok (.ireturn, 1) := by decide +kernel
theorem dX3_behind_34 : decode cX3_behind 34 = .ok (.aload_n 0, 1) := by decide +kernel
theorem dX3_behind_35 : decode cX3_behind 35 = .ok (.iload_n 2, 1) := by decide +kernel
theorem dX3_behind_36 : decode cX3_behind 36 = .ok (.invokevirtual 121, 3) := by decide +kernel
theorem dX3_behind_39 : decode cX3_behind 39 = .ok (.aload_n 0, 1) := by decide +kernel
theorem dX3_behind_40 : decode cX3_behind 40 = .ok (.getfield 16, 3) := by decide +kernel
theorem dX3_behind_43 : decode cX3_behind 43 = .ok (.iload_n 1, 1) := by decide +kernel
theorem dX3_behind_44 : decode cX3_behind 44 = .ok (.invokevirtual 76, 3) := by decide +kernel
theorem dX3_behind_47 : decode cX3_behind 47 = .ok (.astore 5, 2) := by decide +kernel
theorem dX3_behind_49 : decode cX3_behind 49 = .ok (.iload_n 3, 1) := by decide +kernel
theorem dX3_behind_50 : decode cX3_behind 50 = .ok (.ifCond .ne 11, 3) := by decide +kernel
theorem dX3_behind_53 : decode cX3_behind 53 = .ok (.aload 5, 2) := by decide +kernel
theorem dX3_behind_55 : decode cX3_behind 55 = .ok (.getfield 88, 3) := by decide +kernel
theorem dX3_behind_58 : decode cX3_behind 58 = .ok (.goto 21, 3) := by decide +kernel
theorem dX3_behind_61 : decode cX3_behind 61 = .ok (.iload_n 3, 1) := by decide +kernel
theorem dX3_behind_62 : decode cX3_behind 62 = .ok (.iconst 1, 1) := by decide +kernel
theorem dX3_behind_63 : decode cX3_behind 63 = .ok (.if_icmp .ne 11, 3) := by decide +kernel
theorem dX3_behind_66 : decode cX3_behind 66 = .ok (.aload 5, 2) := by decide +kernel
theorem dX3_behind_68 : decode cX3_behind 68 = .ok (.getfield 91, 3) := by decide +kernel
theorem dX3_behind_71 : decode cX3_behind 71 = .ok (.goto 8, 3) := by decide +kernel
theorem dX3_behind_74 : decode cX3_behind 74 = .ok (.aload 5, 2) := by decide +kernel
theorem dX3_behind_76 : decode cX3_behind 76 = .ok (.getfield 97, 3) := by decide +kernel
theorem dX3_behind_79 : decode cX3_behind 79 = .ok (.ireturn, 1) := by decide +kernel
theorem dX3_allBehind_0 : decode cX3_allBehind 0 = .ok (.iload_n 1, 1) := by decide +kernel
theorem dX3_allBehind_1 : decode cX3_allBehind 1 = .ok (.invokestatic 118, 3) := by decide +kernel
theorem dX3_allBehind_4 : decode cX3_allBehind 4 = .ok (.iload_n 2, 1) := by decide +kernel
theorem dX3_allBehind_5 : decode cX3_allBehind 5 = .ok (.iconst 2, 1) := by decide +kernel
theorem dX3_allBehind_6 : decode cX3_allBehind 6 = .ok (.invokestatic 69, 3) := by decide +kernel
theorem dX3_allBehind_9 : decode cX3_allBehind 9 = .ok (.iconst 0, 1) := by decide +kernel
theorem dX3_allBehind_10 : decode cX3_allBehind 10 = .ok (.invokestatic 73, 3) := by decide +kernel
theorem dX3_allBehind_13 : decode cX3_allBehind 13 = .ok (.istore_n 3, 1) := by decide +kernel
theorem dX3_allBehind_14 : decode cX3_allBehind 14 = .ok (.iload_n 3, 1) := by decide +kernel
theorem dX3_allBehind_15 : decode cX3_allBehind 15 = .ok (.ifCond .eq 9, 3) := by decide +kernel
theorem dX3_allBehind_18 : decode cX3_allBehind 18 = .ok (.aload_n 0, 1) := by decide +kernel
theorem dX3_allBehind_19 : decode cX3_allBehind 19 = .ok (.iload_n 3, 1) := by decide +kernel
theorem dX3_allBehind_20 : decode cX3_allBehind 20 = .ok (.invokevirtual 56, 3) := by decide +kernel
theorem dX3_allBehind_23 : decode cX3_allBehind 23 = .ok (.ireturn, 1) := by decide +kernel
theorem dX3_allBehind_24 : decode cX3_allBehind 24 = .ok (.aload_n 0, 1) := by decide +kernel
theorem dX3_allBehind_25 : decode cX3_allBehind 25 = .ok (.iload_n 1, 1) := by decide +kernel
theorem dX3_allBehind_26 : decode cX3_allBehind 26 = .ok (.invokevirtual 121, 3) := by decide +kernel
theorem dX3_allBehind_29 : decode cX3_allBehind 29 = .ok (.iload_n 2, 1) := by decide +kernel
theorem dX3_allBehind_30 : decode cX3_allBehind 30 = .ok (.ifCond .ne 13, 3) := by decide +kernel
theorem dX3_allBehind_33 : decode cX3_allBehind 33 = .ok (.aload_n 0, 1) := by decide +kernel
theorem dX3_allBehind_34 : decode cX3_allBehind 34 = .ok (.getfield 16, 3) := by decide +kernel
theorem dX3_allBehind_37 : decode cX3_allBehind 37 = .ok (.invokevirtual 125, 3) := by decide +kernel
theorem dX3_allBehind_40 : decode cX3_allBehind 40 = .ok (.goto 25, 3) := by decide +kernel
theorem dX3_allBehind_43 : decode cX3_allBehind 43 = .ok (.iload_n 2, 1) := by decide +kernel
theorem dX3_allBehind_44 : decode cX3_allBehind 44 = .ok (.iconst 1, 1) := by decide +kernel
theorem dX3_allBehind_45 : decode cX3_allBehind 45 = .ok (.if_icmp .ne 13, 3) := by decide +kernel
theorem dX3_allBehind_48 : decode cX3_allBehind 48 = .ok (.aload_n 0, 1) := by decide +kernel
theorem dX3_allBehind_49 : decode cX3_allBehind 49 = .ok (.getfield 16, 3) := by decide +kernel
theorem dX3_allBehind_52 : decode cX3_allBehind 52 = .ok (.invokevirtual 128, 3) := by decide +kernel
theorem dX3_allBehind_55 : decode cX3_allBehind 55 = .ok (.goto 10, 3) := by decide +kernel
theorem dX3_allBehind_58 : decode cX3_allBehind 58 = .ok (.aload_n 0, 1) := by decide +kernel
theorem dX3_allBehind_59 : decode cX3_allBehind 59 = .ok (.getfield 16, 3) := by decide +kernel
theorem dX3_allBehind_62 : decode cX3_allBehind 62 = .ok (.invokevirtual 131, 3) := by decide +kernel
theorem dX3_allBehind_65 : decode cX3_allBehind 65 = .ok (.ireturn, 1) := by decide +kernel
theorem dX3_theirs_0 : decode cX3_theirs 0 = .ok (.aload_n 0, 1) := by decide +kernel
theorem dX3_theirs_1 : decode cX3_theirs 1 = .ok (.iload_n 1, 1) := by decide +kernel
theorem dX3_theirs_2 : decode cX3_theirs 2 = .ok (.invokevirtual 134, 3) := by decide +kernel
theorem dX3_theirs_5 : decode cX3_theirs 5 = .ok (.iload_n 2, 1) := by decide +kernel
theorem dX3_theirs_6 : decode cX3_theirs 6 = .ok (.invokestatic 118, 3) := by decide +kernel
theorem dX3_theirs_9 : decode cX3_theirs 9 = .ok (.iload_n 3, 1) := by decide +kernel
theorem dX3_theirs_10 : decode cX3_theirs 10 = .ok (.iconst 1, 1) := by decide +kernel
theorem dX3_theirs_11 : decode cX3_theirs 11 = .ok (.invokestatic 69, 3) := by decide +kernel
theorem dX3_theirs_14 : decode cX3_theirs 14 = .ok (.invokestatic 73, 3) := by decide +kernel
theorem dX3_theirs_17 : decode cX3_theirs 17 = .ok (.istore 4, 2) := by decide +kernel
theorem dX3_theirs_19 : decode cX3_theirs 19 = .ok (.iload 4, 2) := by decide +kernel
theorem dX3_theirs_21 : decode cX3_theirs 21 = .ok (.ifCond .eq 10, 3) := by decide +kernel
theorem dX3_theirs_24 : decode cX3_theirs 24 = .ok (.aload_n 0, 1) := by decide +kernel
theorem dX3_theirs_25 : decode cX3_theirs 25 = .ok (.iload 4, 2) := by decide +kernel
theorem dX3_theirs_27 : decode cX3_theirs 27 = .ok (.invokevirtual 137, 3) := by decide +kernel
theorem dX3_theirs_30 : decode cX3_theirs 30 = .ok (.lreturn, 1) := by decide +kernel
theorem dX3_theirs_31 : decode cX3_theirs 31 = .ok (.aload_n 0, 1) := by decide +kernel
theorem dX3_theirs_32 : decode cX3_theirs 32 = .ok (.iload_n 2, 1) := by decide +kernel
theorem dX3_theirs_33 : decode cX3_theirs 33 = .ok (.invokevirtual 121, 3) := by decide +kernel
theorem dX3_theirs_36 : decode cX3_theirs 36 = .ok (.iload_n 1, 1) := by decide +kernel
theorem dX3_theirs_37 : decode cX3_theirs 37 = .ok (.ifCond .ge 14, 3) := by decide +kernel
theorem dX3_theirs_40 : decode cX3_theirs 40 = .ok (.aload_n 0, 1) := by decide +kernel
theorem dX3_theirs_41 : decode cX3_theirs 41 = .ok (.getfield 16, 3) := by decide +kernel
theorem dX3_theirs_44 : decode cX3_theirs 44 = .ok (.invokevirtual 125, 3) := by decide +kernel
theorem dX3_theirs_47 : decode cX3_theirs 47 = .ok (.i2l, 1) := by decide +kernel
theorem dX3_theirs_48 : decode cX3_theirs 48 = .ok (.goto 15, 3) := by decide +kernel
theorem dX3_theirs_51 : decode cX3_theirs 51 = .ok (.aload_n 0, 1) := by decide +kernel
theorem dX3_theirs_52 : decode cX3_theirs 52 = .ok (.getfield 16, 3) := by decide +kernel
theorem dX3_theirs_55 : decode cX3_theirs 55 = .ok (.iload_n 1, 1) := by decide +kernel
theorem dX3_theirs_56 : decode cX3_theirs 56 = .ok (.invokevirtual 76, 3) := by decide +kernel
theorem dX3_theirs_59 : decode cX3_theirs 59 = .ok (.getfield 88, 3) := by decide +kernel
theorem dX3_theirs_62 : decode cX3_theirs 62 = .ok (.i2l, 1) := by decide +kernel
theorem dX3_theirs_63 : decode cX3_theirs 63 = .ok (.lstore 5, 2) := by decide +kernel
theorem dX3_theirs_65 : decode cX3_theirs 65 = .ok (.iload_n 1, 1) := by decide +kernel
theorem dX3_theirs_66 : decode cX3_theirs 66 = .ok (.ifCond .ge 14, 3) := by decide +kernel
theorem dX3_theirs_69 : decode cX3_theirs 69 = .ok (.aload_n 0, 1) := by decide +kernel
theorem dX3_theirs_70 : decode cX3_theirs 70 = .ok (.getfield 16, 3) := by decide +kernel
theorem dX3_theirs_73 : decode cX3_theirs 73 = .ok (.invokevirtual 128, 3) := by decide +kernel
theorem dX3_theirs_76 : decode cX3_theirs 76 = .ok (.i2l, 1) := by decide +kernel
theorem dX3_theirs_77 : decode cX3_theirs 77 = .ok (.goto 15, 3) := by decide +kernel
theorem dX3_theirs_80 : decode cX3_theirs 80 = .ok (.aload_n 0, 1) := by decide +kernel
theorem dX3_theirs_81 : decode cX3_theirs 81 = .ok (.getfield 16, 3) := by decide +kernel
theorem dX3_theirs_84 : decode cX3_theirs 84 = .ok (.iload_n 1, 1) := by decide +kernel
theorem dX3_theirs_85 : decode cX3_theirs 85 = .ok (.invokevirtual 76, 3) := by decide +kernel
theorem dX3_theirs_88 : decode cX3_theirs 88 = .ok (.getfield 97, 3) := by decide +kernel
theorem dX3_theirs_91 : decode cX3_theirs 91 = .ok (.i2l, 1) := by decide +kernel
theorem dX3_theirs_92 : decode cX3_theirs 92 = .ok (.lstore 7, 2) := by decide +kernel
theorem dX3_theirs_94 : decode cX3_theirs 94 = .ok (.lload 7, 2) := by decide +kernel
theorem dX3_theirs_96 : decode cX3_theirs 96 = .ok (.lload 5, 2) := by decide +kernel
theorem dX3_theirs_98 : decode cX3_theirs 98 = .ok (.lload 7, 2) := by decide +kernel
theorem dX3_theirs_100 : decode cX3_theirs 100 = .ok (.ladd, 1) := by decide +kernel
theorem dX3_theirs_101 : decode cX3_theirs 101 = .ok (.iload_n 3, 1) := by decide +kernel
theorem dX3_theirs_102 : decode cX3_theirs 102 = .ok (.invokestatic 141, 3) := by decide +kernel
theorem dX3_theirs_105 : decode cX3_theirs 105 = .ok (.lreturn, 1) := by decide +kernel
theorem dX3_excise_0 : decode cX3_excise 0 = .ok (.aload_n 0, 1) := by decide +kernel
theorem dX3_excise_1 : decode cX3_excise 1 = .ok (.iload_n 1, 1) := by decide +kernel
theorem dX3_excise_2 : decode cX3_excise 2 = .ok (.invokevirtual 134, 3) := by decide +kernel
theorem dX3_excise_5 : decode cX3_excise 5 = .ok (.istore_n 2, 1) := by decide +kernel
theorem dX3_excise_6 : decode cX3_excise 6 = .ok (.iload_n 2, 1) := by decide +kernel
theorem dX3_excise_7 : decode cX3_excise 7 = .ok (.ifCond .eq 9, 3) := by decide +kernel
theorem dX3_excise_10 : decode cX3_excise 10 = .ok (.aload_n 0, 1) := by decide +kernel
theorem dX3_excise_11 : decode cX3_excise 11 = .ok (.iload_n 2, 1) := by decide +kernel
theorem dX3_excise_12 : decode cX3_excise 12 = .ok (.invokevirtual 56, 3) := by decide +kernel
theorem dX3_excise_15 : decode cX3_excise 15 = .ok (.ireturn, 1) := by decide +kernel
theorem dX3_excise_16 : decode cX3_excise 16 = .ok (.iload_n 1, 1) := by decide +kernel
theorem dX3_excise_17 : decode cX3_excise 17 = .ok (.ifCond .ge 13, 3) := by decide +kernel
theorem dX3_excise_20 : decode cX3_excise 20 = .ok (.aload_n 0, 1) := by decide +kernel
theorem dX3_excise_21 : decode cX3_excise 21 = .ok (.getfield 10, 3) := by decide +kernel
theorem dX3_excise_24 : decode cX3_excise 24 = .ok (.invokevirtual 145, 3) := by decide +kernel
theorem dX3_excise_27 : decode cX3_excise 27 = .ok (.goto 11, 3) := by decide +kernel
theorem dX3_excise_30 : decode cX3_excise 30 = .ok (.aload_n 0, 1) := by decide +kernel
theorem dX3_excise_31 : decode cX3_excise 31 = .ok (.getfield 10, 3) := by decide +kernel
theorem dX3_excise_34 : decode cX3_excise 34 = .ok (.iload_n 1, 1) := by decide +kernel
theorem dX3_excise_35 : decode cX3_excise 35 = .ok (.invokevirtual 148, 3) := by decide +kernel
theorem dX3_excise_38 : decode cX3_excise 38 = .ok (.ireturn, 1) := by decide +kernel
theorem dX3_exciseIn_0 : decode cX3_exciseIn 0 = .ok (.iload_n 1, 1) := by decide +kernel
theorem dX3_exciseIn_1 : decode cX3_exciseIn 1 = .ok (.invokestatic 118, 3) := by decide +kernel
theorem dX3_exciseIn_4 : decode cX3_exciseIn 4 = .ok (.istore_n 2, 1) := by decide +kernel
theorem dX3_exciseIn_5 : decode cX3_exciseIn 5 = .ok (.iload_n 2, 1) := by decide +kernel
theorem dX3_exciseIn_6 : decode cX3_exciseIn 6 = .ok (.ifCond .eq 9, 3) := by decide +kernel
theorem dX3_exciseIn_9 : decode cX3_exciseIn 9 = .ok (.aload_n 0, 1) := by decide +kernel
theorem dX3_exciseIn_10 : decode cX3_exciseIn 10 = .ok (.iload_n 2, 1) := by decide +kernel
theorem dX3_exciseIn_11 : decode cX3_exciseIn 11 = .ok (.invokevirtual 56, 3) := by decide +kernel
theorem dX3_exciseIn_14 : decode cX3_exciseIn 14 = .ok (.ireturn, 1) := by decide +kernel
theorem dX3_exciseIn_15 : decode cX3_exciseIn 15 = .ok (.iconst 0, 1) := by decide +kernel
theorem dX3_exciseIn_16 : decode cX3_exciseIn 16 = .ok (.istore_n 3, 1) := by decide +kernel
theorem dX3_exciseIn_17 : decode cX3_exciseIn 17 = .ok (.aload_n 0, 1) := by decide +kernel
theorem dX3_exciseIn_18 : decode cX3_exciseIn 18 = .ok (.getfield 16, 3) := by decide +kernel
theorem dX3_exciseIn_21 : decode cX3_exciseIn 21 = .ok (.aload_n 0, 1) := by decide +kernel
theorem dX3_exciseIn_22 : decode cX3_exciseIn 22 = .ok (.getfield 10, 3) := by decide +kernel
theorem dX3_exciseIn_25 : decode cX3_exciseIn 25 = .ok (.invokevirtual 151, 3) := by decide +kernel
theorem dX3_exciseIn_28 : decode cX3_exciseIn 28 = .ok (.iconst 0, 1) := by decide +kernel
theorem dX3_exciseIn_29 : decode cX3_exciseIn 29 = .ok (.istore 4, 2) := by decide +kernel
theorem dX3_exciseIn_31 : decode cX3_exciseIn 31 = .ok (.iload 4, 2) := by decide +kernel
theorem dX3_exciseIn_33 : decode cX3_exciseIn 33 = .ok (.iload_n 1, 1) := by decide +kernel
theorem dX3_exciseIn_34 : decode cX3_exciseIn 34 = .ok (.if_icmp .ge 27, 3) := by decide +kernel
theorem dX3_exciseIn_37 : decode cX3_exciseIn 37 = .ok (.aload_n 0, 1) := by decide +kernel
theorem dX3_exciseIn_38 : decode cX3_exciseIn 38 = .ok (.getfield 16, 3) := by decide +kernel
theorem dX3_exciseIn_41 : decode cX3_exciseIn 41 = .ok (.iconst 1, 1) := by decide +kernel
theorem dX3_exciseIn_42 : decode cX3_exciseIn 42 = .ok (.invokevirtual 155, 3) := by decide +kernel
theorem dX3_exciseIn_45 : decode cX3_exciseIn 45 = .ok (.iload_n 3, 1) := by decide +kernel
theorem dX3_exciseIn_46 : decode cX3_exciseIn 46 = .ok (.aload_n 0, 1) := by decide +kernel
theorem dX3_exciseIn_47 : decode cX3_exciseIn 47 = .ok (.getfield 16, 3) := by decide +kernel
theorem dX3_exciseIn_50 : decode cX3_exciseIn 50 = .ok (.invokevirtual 145, 3) := by decide +kernel
theorem dX3_exciseIn_53 : decode cX3_exciseIn 53 = .ok (.iadd, 1) := by decide +kernel
theorem dX3_exciseIn_54 : decode cX3_exciseIn 54 = .ok (.istore_n 3, 1) := by decide +kernel
theorem dX3_exciseIn_55 : decode cX3_exciseIn 55 = .ok (.iinc 4 1, 3) := by decide +kernel
theorem dX3_exciseIn_58 : decode cX3_exciseIn 58 = .ok (.goto (-27), 3) := by decide +kernel
theorem dX3_exciseIn_61 : decode cX3_exciseIn 61 = .ok (.iload_n 3, 1) := by decide +kernel
theorem dX3_exciseIn_62 : decode cX3_exciseIn 62 = .ok (.ireturn, 1) := by decide +kernel
theorem dX3_low_0 : decode cX3_low 0 = .ok (.aload_n 0, 1) := by decide +kernel
theorem dX3_low_1 : decode cX3_low 1 = .ok (.getfield 10, 3) := by decide +kernel
theorem dX3_low_4 : decode cX3_low 4 = .ok (.iload_n 1, 1) := by decide +kernel
theorem dX3_low_5 : decode cX3_low 5 = .ok (.invokevirtual 66, 3) := by decide +kernel
theorem dX3_low_8 : decode cX3_low 8 = .ok (.iload_n 2, 1) := by decide +kernel
theorem dX3_low_9 : decode cX3_low 9 = .ok (.iconst 0, 1) := by decide +kernel
theorem dX3_low_10 : decode cX3_low 10 = .ok (.sipush 400, 3) := by decide +kernel
theorem dX3_low_13 : decode cX3_low 13 = .ok (.invokestatic 44, 3) := by decide +kernel
theorem dX3_low_16 : decode cX3_low 16 = .ok (.iconst 0, 1) := by decide +kernel
theorem dX3_low_17 : decode cX3_low 17 = .ok (.invokestatic 73, 3) := by decide +kernel
theorem dX3_low_20 : decode cX3_low 20 = .ok (.istore_n 3, 1) := by decide +kernel
theorem dX3_low_21 : decode cX3_low 21 = .ok (.iload_n 3, 1) := by decide +kernel
theorem dX3_low_22 : decode cX3_low 22 = .ok (.ifCond .eq 9, 3) := by decide +kernel
theorem dX3_low_25 : decode cX3_low 25 = .ok (.aload_n 0, 1) := by decide +kernel
theorem dX3_low_26 : decode cX3_low 26 = .ok (.iload_n 3, 1) := by decide +kernel
theorem dX3_low_27 : decode cX3_low 27 = .ok (.invokevirtual 56, 3) := by decide +kernel
theorem dX3_low_30 : decode cX3_low 30 = .ok (.ireturn, 1) := by decide +kernel
theorem dX3_low_31 : decode cX3_low 31 = .ok (.aload_n 0, 1) := by decide +kernel
theorem dX3_low_32 : decode cX3_low 32 = .ok (.getfield 16, 3) := by decide +kernel
theorem dX3_low_35 : decode cX3_low 35 = .ok (.aload_n 0, 1) := by decide +kernel
theorem dX3_low_36 : decode cX3_low 36 = .ok (.getfield 10, 3) := by decide +kernel
theorem dX3_low_39 : decode cX3_low 39 = .ok (.invokevirtual 151, 3) := by decide +kernel
theorem dX3_low_42 : decode cX3_low 42 = .ok (.iconst 0, 1) := by decide +kernel
theorem dX3_low_43 : decode cX3_low 43 = .ok (.istore 4, 2) := by decide +kernel
theorem dX3_low_45 : decode cX3_low 45 = .ok (.iload 4, 2) := by decide +kernel
theorem dX3_low_47 : decode cX3_low 47 = .ok (.sipush 200, 3) := by decide +kernel
theorem dX3_low_50 : decode cX3_low 50 = .ok (.if_icmp .gt 35, 3) := by decide +kernel
theorem dX3_low_53 : decode cX3_low 53 = .ok (.aload_n 0, 1) := by decide +kernel
theorem dX3_low_54 : decode cX3_low 54 = .ok (.getfield 16, 3) := by decide +kernel
theorem dX3_low_57 : decode cX3_low 57 = .ok (.iload_n 1, 1) := by decide +kernel
theorem dX3_low_58 : decode cX3_low 58 = .ok (.invokevirtual 76, 3) := by decide +kernel
theorem dX3_low_61 : decode cX3_low 61 = .ok (.getfield 88, 3) := by decide +kernel
theorem dX3_low_64 : decode cX3_low 64 = .ok (.iload_n 2, 1) := by decide +kernel
theorem dX3_low_65 : decode cX3_low 65 = .ok (.if_icmp .gt 6, 3) := by decide +kernel
theorem dX3_low_68 : decode cX3_low 68 = .ok (.iload 4, 2) := by decide +kernel
theorem dX3_low_70 : decode cX3_low 70 = .ok (.ireturn, 1) := by decide +kernel
theorem dX3_low_71 : decode cX3_low 71 = .ok (.aload_n 0, 1) := by decide +kernel
theorem dX3_low_72 : decode cX3_low 72 = .ok (.getfield 16, 3) := by decide +kernel
theorem dX3_low_75 : decode cX3_low 75 = .ok (.iconst 1, 1) := by decide +kernel
theorem dX3_low_76 : decode cX3_low 76 = .ok (.invokevirtual 155, 3) := by decide +kernel
theorem dX3_low_79 : decode cX3_low 79 = .ok (.iinc 4 1, 3) := by decide +kernel
theorem dX3_low_82 : decode cX3_low 82 = .ok (.goto (-37), 3) := by decide +kernel
theorem dX3_low_85 : decode cX3_low 85 = .ok (.bipush (-9), 2) := by decide +kernel
theorem dX3_low_87 : decode cX3_low 87 = .ok (.ireturn, 1) := by decide +kernel
theorem dX3_turns_0 : decode cX3_turns 0 = .ok (.aload_n 0, 1) := by decide +kernel
theorem dX3_turns_1 : decode cX3_turns 1 = .ok (.getfield 16, 3) := by decide +kernel
theorem dX3_turns_4 : decode cX3_turns 4 = .ok (.aload_n 0, 1) := by decide +kernel
theorem dX3_turns_5 : decode cX3_turns 5 = .ok (.getfield 10, 3) := by decide +kernel
theorem dX3_turns_8 : decode cX3_turns 8 = .ok (.invokevirtual 151, 3) := by decide +kernel
theorem dX3_turns_11 : decode cX3_turns 11 = .ok (.iconst 1, 1) := by decide +kernel
theorem dX3_turns_12 : decode cX3_turns 12 = .ok (.istore_n 1, 1) := by decide +kernel
theorem dX3_turns_13 : decode cX3_turns 13 = .ok (.iload_n 1, 1) := by decide +kernel
theorem dX3_turns_14 : decode cX3_turns 14 = .ok (.sipush 200, 3) := by decide +kernel
theorem dX3_turns_17 : decode cX3_turns 17 = .ok (.if_icmp .gt 38, 3) := by decide +kernel
theorem dX3_turns_20 : decode cX3_turns 20 = .ok (.aload_n 0, 1) := by decide +kernel
theorem dX3_turns_21 : decode cX3_turns 21 = .ok (.getfield 16, 3) := by decide +kernel
theorem dX3_turns_24 : decode cX3_turns 24 = .ok (.invokevirtual 128, 3) := by decide +kernel
theorem dX3_turns_27 : decode cX3_turns 27 = .ok (.istore_n 2, 1) := by decide +kernel
theorem dX3_turns_28 : decode cX3_turns 28 = .ok (.aload_n 0, 1) := by decide +kernel
theorem dX3_turns_29 : decode cX3_turns 29 = .ok (.getfield 16, 3) := by decide +kernel
theorem dX3_turns_32 : decode cX3_turns 32 = .ok (.iconst 1, 1) := by decide +kernel
theorem dX3_turns_33 : decode cX3_turns 33 = .ok (.invokevirtual 155, 3) := by decide +kernel
theorem dX3_turns_36 : decode cX3_turns 36 = .ok (.aload_n 0, 1) := by decide +kernel
theorem dX3_turns_37 : decode cX3_turns 37 = .ok (.getfield 16, 3) := by decide +kernel
theorem dX3_turns_40 : decode cX3_turns 40 = .ok (.invokevirtual 128, 3) := by decide +kernel
theorem dX3_turns_43 : decode cX3_turns 43 = .ok (.iload_n 2, 1) := by decide +kernel
theorem dX3_turns_44 : decode cX3_turns 44 = .ok (.if_icmp .ge 5, 3) := by decide +kernel
theorem dX3_turns_47 : decode cX3_turns 47 = .ok (.iload_n 1, 1) := by decide +kernel
theorem dX3_turns_48 : decode cX3_turns 48 = .ok (.ireturn, 1) := by decide +kernel
theorem dX3_turns_49 : decode cX3_turns 49 = .ok (.iinc 1 1, 3) := by decide +kernel
theorem dX3_turns_52 : decode cX3_turns 52 = .ok (.goto (-39), 3) := by decide +kernel
theorem dX3_turns_55 : decode cX3_turns 55 = .ok (.bipush (-9), 2) := by decide +kernel
theorem dX3_turns_57 : decode cX3_turns 57 = .ok (.ireturn, 1) := by decide +kernel
theorem dX3_hum_0 : decode cX3_hum 0 = .ok (.aload_n 0, 1) := by decide +kernel
theorem dX3_hum_1 : decode cX3_hum 1 = .ok (.getfield 10, 3) := by decide +kernel
theorem dX3_hum_4 : decode cX3_hum 4 = .ok (.iload_n 1, 1) := by decide +kernel
theorem dX3_hum_5 : decode cX3_hum 5 = .ok (.invokevirtual 66, 3) := by decide +kernel
theorem dX3_hum_8 : decode cX3_hum 8 = .ok (.istore_n 2, 1) := by decide +kernel
theorem dX3_hum_9 : decode cX3_hum 9 = .ok (.iload_n 2, 1) := by decide +kernel
theorem dX3_hum_10 : decode cX3_hum 10 = .ok (.ifCond .eq 9, 3) := by decide +kernel
theorem dX3_hum_13 : decode cX3_hum 13 = .ok (.aload_n 0, 1) := by decide +kernel
theorem dX3_hum_14 : decode cX3_hum 14 = .ok (.iload_n 2, 1) := by decide +kernel
theorem dX3_hum_15 : decode cX3_hum 15 = .ok (.invokevirtual 56, 3) := by decide +kernel
theorem dX3_hum_18 : decode cX3_hum 18 = .ok (.ireturn, 1) := by decide +kernel
theorem dX3_hum_19 : decode cX3_hum 19 = .ok (.aload_n 0, 1) := by decide +kernel
theorem dX3_hum_20 : decode cX3_hum 20 = .ok (.getfield 16, 3) := by decide +kernel
theorem dX3_hum_23 : decode cX3_hum 23 = .ok (.aload_n 0, 1) := by decide +kernel
theorem dX3_hum_24 : decode cX3_hum 24 = .ok (.getfield 10, 3) := by decide +kernel
theorem dX3_hum_27 : decode cX3_hum 27 = .ok (.invokevirtual 151, 3) := by decide +kernel
theorem dX3_hum_30 : decode cX3_hum 30 = .ok (.iconst 0, 1) := by decide +kernel
theorem dX3_hum_31 : decode cX3_hum 31 = .ok (.istore_n 3, 1) := by decide +kernel
theorem dX3_hum_32 : decode cX3_hum 32 = .ok (.iload_n 3, 1) := by decide +kernel
theorem dX3_hum_33 : decode cX3_hum 33 = .ok (.sipush 200, 3) := by decide +kernel
theorem dX3_hum_36 : decode cX3_hum 36 = .ok (.if_icmp .gt 33, 3) := by decide +kernel
theorem dX3_hum_39 : decode cX3_hum 39 = .ok (.aload_n 0, 1) := by decide +kernel
theorem dX3_hum_40 : decode cX3_hum 40 = .ok (.getfield 16, 3) := by decide +kernel
theorem dX3_hum_43 : decode cX3_hum 43 = .ok (.iload_n 1, 1) := by decide +kernel
theorem dX3_hum_44 : decode cX3_hum 44 = .ok (.invokevirtual 76, 3) := by decide +kernel
theorem dX3_hum_47 : decode cX3_hum 47 = .ok (.invokevirtual 158, 3) := by decide +kernel
theorem dX3_hum_50 : decode cX3_hum 50 = .ok (.ifCond .eq 5, 3) := by decide +kernel
theorem dX3_hum_53 : decode cX3_hum 53 = .ok (.iload_n 3, 1) := by decide +kernel
theorem dX3_hum_54 : decode cX3_hum 54 = .ok (.ireturn, 1) := by decide +kernel
theorem dX3_hum_55 : decode cX3_hum 55 = .ok (.aload_n 0, 1) := by decide +kernel
theorem dX3_hum_56 : decode cX3_hum 56 = .ok (.getfield 16, 3) := by decide +kernel
theorem dX3_hum_59 : decode cX3_hum 59 = .ok (.iconst 1, 1) := by decide +kernel
theorem dX3_hum_60 : decode cX3_hum 60 = .ok (.invokevirtual 155, 3) := by decide +kernel
theorem dX3_hum_63 : decode cX3_hum 63 = .ok (.iinc 3 1, 3) := by decide +kernel
theorem dX3_hum_66 : decode cX3_hum 66 = .ok (.goto (-34), 3) := by decide +kernel
theorem dX3_hum_69 : decode cX3_hum 69 = .ok (.bipush (-9), 2) := by decide +kernel
theorem dX3_hum_71 : decode cX3_hum 71 = .ok (.ireturn, 1) := by decide +kernel
theorem dX3_pourFor_0 : decode cX3_pourFor 0 = .ok (.aload_n 0, 1) := by decide +kernel
theorem dX3_pourFor_1 : decode cX3_pourFor 1 = .ok (.getfield 10, 3) := by decide +kernel
theorem dX3_pourFor_4 : decode cX3_pourFor 4 = .ok (.iload_n 1, 1) := by decide +kernel
theorem dX3_pourFor_5 : decode cX3_pourFor 5 = .ok (.invokevirtual 66, 3) := by decide +kernel
theorem dX3_pourFor_8 : decode cX3_pourFor 8 = .ok (.iload_n 2, 1) := by decide +kernel
theorem dX3_pourFor_9 : decode cX3_pourFor 9 = .ok (.iconst 0, 1) := by decide +kernel
theorem dX3_pourFor_10 : decode cX3_pourFor 10 = .ok (.bipush 99, 2) := by decide +kernel
theorem dX3_pourFor_12 : decode cX3_pourFor 12 = .ok (.invokestatic 44, 3) := by decide +kernel
theorem dX3_pourFor_15 : decode cX3_pourFor 15 = .ok (.iconst 0, 1) := by decide +kernel
theorem dX3_pourFor_16 : decode cX3_pourFor 16 = .ok (.invokestatic 73, 3) := by decide +kernel
theorem dX3_pourFor_19 : decode cX3_pourFor 19 = .ok (.istore_n 3, 1) := by decide +kernel
theorem dX3_pourFor_20 : decode cX3_pourFor 20 = .ok (.iload_n 3, 1) := by decide +kernel
theorem dX3_pourFor_21 : decode cX3_pourFor 21 = .ok (.ifCond .eq 9, 3) := by decide +kernel
theorem dX3_pourFor_24 : decode cX3_pourFor 24 = .ok (.aload_n 0, 1) := by decide +kernel
theorem dX3_pourFor_25 : decode cX3_pourFor 25 = .ok (.iload_n 3, 1) := by decide +kernel
theorem dX3_pourFor_26 : decode cX3_pourFor 26 = .ok (.invokevirtual 56, 3) := by decide +kernel
theorem dX3_pourFor_29 : decode cX3_pourFor 29 = .ok (.ireturn, 1) := by decide +kernel
theorem dX3_pourFor_30 : decode cX3_pourFor 30 = .ok (.iconst 1, 1) := by decide +kernel
theorem dX3_pourFor_31 : decode cX3_pourFor 31 = .ok (.istore 4, 2) := by decide +kernel
theorem dX3_pourFor_33 : decode cX3_pourFor 33 = .ok (.iload 4, 2) := by decide +kernel
theorem dX3_pourFor_35 : decode cX3_pourFor 35 = .ok (.sipush 400, 3) := by decide +kernel
theorem dX3_pourFor_38 : decode cX3_pourFor 38 = .ok (.if_icmp .gt 71, 3) := by decide +kernel
theorem dX3_pourFor_41 : decode cX3_pourFor 41 = .ok (.iconst 0, 1) := by decide +kernel
theorem dX3_pourFor_42 : decode cX3_pourFor 42 = .ok (.istore 5, 2) := by decide +kernel
theorem dX3_pourFor_44 : decode cX3_pourFor 44 = .ok (.iload 5, 2) := by decide +kernel
theorem dX3_pourFor_46 : decode cX3_pourFor 46 = .ok (.aload_n 0, 1) := by decide +kernel
theorem dX3_pourFor_47 : decode cX3_pourFor 47 = .ok (.getfield 10, 3) := by decide +kernel
theorem dX3_pourFor_50 : decode cX3_pourFor 50 = .ok (.getfield 161, 3) := by decide +kernel
theorem dX3_pourFor_53 : decode cX3_pourFor 53 = .ok (.if_icmp .ge 50, 3) := by decide +kernel
theorem dX3_pourFor_56 : decode cX3_pourFor 56 = .ok (.aload_n 0, 1) := by decide +kernel
theorem dX3_pourFor_57 : decode cX3_pourFor 57 = .ok (.getfield 10, 3) := by decide +kernel
theorem dX3_pourFor_60 : decode cX3_pourFor 60 = .ok (.iload 5, 2) := by decide +kernel
theorem dX3_pourFor_62 : decode cX3_pourFor 62 = .ok (.iload_n 1, 1) := by decide +kernel
theorem dX3_pourFor_63 : decode cX3_pourFor 63 = .ok (.iload 4, 2) := by decide +kernel
theorem dX3_pourFor_65 : decode cX3_pourFor 65 = .ok (.invokevirtual 164, 3) := by decide +kernel
theorem dX3_pourFor_68 : decode cX3_pourFor 68 = .ok (.ifCond .ne 29, 3) := by decide +kernel
theorem dX3_pourFor_71 : decode cX3_pourFor 71 = .ok (.aload_n 0, 1) := by decide +kernel
theorem dX3_pourFor_72 : decode cX3_pourFor 72 = .ok (.getfield 10, 3) := by decide +kernel
theorem dX3_pourFor_75 : decode cX3_pourFor 75 = .ok (.iload 5, 2) := by decide +kernel
theorem dX3_pourFor_77 : decode cX3_pourFor 77 = .ok (.iload_n 1, 1) := by decide +kernel
theorem dX3_pourFor_78 : decode cX3_pourFor 78 = .ok (.iload 4, 2) := by decide +kernel
theorem dX3_pourFor_80 : decode cX3_pourFor 80 = .ok (.invokevirtual 167, 3) := by decide +kernel
theorem dX3_pourFor_83 : decode cX3_pourFor 83 = .ok (.iload_n 2, 1) := by decide +kernel
theorem dX3_pourFor_84 : decode cX3_pourFor 84 = .ok (.if_icmp .ne 13, 3) := by decide +kernel
theorem dX3_pourFor_87 : decode cX3_pourFor 87 = .ok (.sipush 1000, 3) := by decide +kernel
theorem dX3_pourFor_90 : decode cX3_pourFor 90 = .ok (.iload 5, 2) := by decide +kernel
theorem dX3_pourFor_92 : decode cX3_pourFor 92 = .ok (.imul, 1) := by decide +kernel
theorem dX3_pourFor_93 : decode cX3_pourFor 93 = .ok (.iload 4, 2) := by decide +kernel
theorem dX3_pourFor_95 : decode cX3_pourFor 95 = .ok (.iadd, 1) := by decide +kernel
theorem dX3_pourFor_96 : decode cX3_pourFor 96 = .ok (.ireturn, 1) := by decide +kernel
theorem dX3_pourFor_97 : decode cX3_pourFor 97 = .ok (.iinc 5 1, 3) := by decide +kernel
theorem dX3_pourFor_100 : decode cX3_pourFor 100 = .ok (.goto (-56), 3) := by decide +kernel
theorem dX3_pourFor_103 : decode cX3_pourFor 103 = .ok (.iinc 4 1, 3) := by decide +kernel
theorem dX3_pourFor_106 : decode cX3_pourFor 106 = .ok (.goto (-73), 3) := by decide +kernel
theorem dX3_pourFor_109 : decode cX3_pourFor 109 = .ok (.bipush (-9), 2) := by decide +kernel
theorem dX3_pourFor_111 : decode cX3_pourFor 111 = .ok (.ireturn, 1) := by decide +kernel
theorem dX3_blend_0 : decode cX3_blend 0 = .ok (.iload_n 1, 1) := by decide +kernel
theorem dX3_blend_1 : decode cX3_blend 1 = .ok (.iconst 0, 1) := by decide +kernel
theorem dX3_blend_2 : decode cX3_blend 2 = .ok (.bipush 99, 2) := by decide +kernel
theorem dX3_blend_4 : decode cX3_blend 4 = .ok (.invokestatic 44, 3) := by decide +kernel
theorem dX3_blend_7 : decode cX3_blend 7 = .ok (.istore_n 2, 1) := by decide +kernel
theorem dX3_blend_8 : decode cX3_blend 8 = .ok (.iload_n 2, 1) := by decide +kernel
theorem dX3_blend_9 : decode cX3_blend 9 = .ok (.ifCond .eq 9, 3) := by decide +kernel
theorem dX3_blend_12 : decode cX3_blend 12 = .ok (.aload_n 0, 1) := by decide +kernel
theorem dX3_blend_13 : decode cX3_blend 13 = .ok (.iload_n 2, 1) := by decide +kernel
theorem dX3_blend_14 : decode cX3_blend 14 = .ok (.invokevirtual 56, 3) := by decide +kernel
theorem dX3_blend_17 : decode cX3_blend 17 = .ok (.ireturn, 1) := by decide +kernel
theorem dX3_blend_18 : decode cX3_blend 18 = .ok (.bipush (-9), 2) := by decide +kernel
theorem dX3_blend_20 : decode cX3_blend 20 = .ok (.istore_n 3, 1) := by decide +kernel
theorem dX3_blend_21 : decode cX3_blend 21 = .ok (.bipush 100, 2) := by decide +kernel
theorem dX3_blend_23 : decode cX3_blend 23 = .ok (.istore 4, 2) := by decide +kernel
theorem dX3_blend_25 : decode cX3_blend 25 = .ok (.iconst 0, 1) := by decide +kernel
theorem dX3_blend_26 : decode cX3_blend 26 = .ok (.istore 5, 2) := by decide +kernel
theorem dX3_blend_28 : decode cX3_blend 28 = .ok (.iload 5, 2) := by decide +kernel
theorem dX3_blend_30 : decode cX3_blend 30 = .ok (.aload_n 0, 1) := by decide +kernel
theorem dX3_blend_31 : decode cX3_blend 31 = .ok (.getfield 10, 3) := by decide +kernel
theorem dX3_blend_34 : decode cX3_blend 34 = .ok (.getfield 161, 3) := by decide +kernel
theorem dX3_blend_37 : decode cX3_blend 37 = .ok (.if_icmp .ge 81, 3) := by decide +kernel
theorem dX3_blend_40 : decode cX3_blend 40 = .ok (.iload 5, 2) := by decide +kernel
theorem dX3_blend_42 : decode cX3_blend 42 = .ok (.iconst 1, 1) := by decide +kernel
theorem dX3_blend_43 : decode cX3_blend 43 = .ok (.iadd, 1) := by decide +kernel
theorem dX3_blend_44 : decode cX3_blend 44 = .ok (.istore 6, 2) := by decide +kernel
theorem dX3_blend_46 : decode cX3_blend 46 = .ok (.iload 6, 2) := by decide +kernel
theorem dX3_blend_48 : decode cX3_blend 48 = .ok (.aload_n 0, 1) := by decide +kernel
theorem dX3_blend_49 : decode cX3_blend 49 = .ok (.getfield 10, 3) := by decide +kernel
theorem dX3_blend_52 : decode cX3_blend 52 = .ok (.getfield 161, 3) := by decide +kernel
theorem dX3_blend_55 : decode cX3_blend 55 = .ok (.if_icmp .ge 57, 3) := by decide +kernel
theorem dX3_blend_58 : decode cX3_blend 58 = .ok (.aload_n 0, 1) := by decide +kernel
theorem dX3_blend_59 : decode cX3_blend 59 = .ok (.getfield 10, 3) := by decide +kernel
theorem dX3_blend_62 : decode cX3_blend 62 = .ok (.iload 5, 2) := by decide +kernel
theorem dX3_blend_64 : decode cX3_blend 64 = .ok (.iload 6, 2) := by decide +kernel
theorem dX3_blend_66 : decode cX3_blend 66 = .ok (.invokevirtual 170, 3) := by decide +kernel
theorem dX3_blend_69 : decode cX3_blend 69 = .ok (.istore 7, 2) := by decide +kernel
theorem dX3_blend_71 : decode cX3_blend 71 = .ok (.iload 7, 2) := by decide +kernel
theorem dX3_blend_73 : decode cX3_blend 73 = .ok (.ifCond .lt 33, 3) := by decide +kernel
theorem dX3_blend_76 : decode cX3_blend 76 = .ok (.iload 7, 2) := by decide +kernel
theorem dX3_blend_78 : decode cX3_blend 78 = .ok (.iload_n 1, 1) := by decide +kernel
theorem dX3_blend_79 : decode cX3_blend 79 = .ok (.isub, 1) := by decide +kernel
theorem dX3_blend_80 : decode cX3_blend 80 = .ok (.invokestatic 173, 3) := by decide +kernel
theorem dX3_blend_83 : decode cX3_blend 83 = .ok (.iload 4, 2) := by decide +kernel
theorem dX3_blend_85 : decode cX3_blend 85 = .ok (.if_icmp .ge 21, 3) := by decide +kernel
theorem dX3_blend_88 : decode cX3_blend 88 = .ok (.iload 7, 2) := by decide +kernel
theorem dX3_blend_90 : decode cX3_blend 90 = .ok (.iload_n 1, 1) := by decide +kernel
theorem dX3_blend_91 : decode cX3_blend 91 = .ok (.isub, 1) := by decide +kernel
theorem dX3_blend_92 : decode cX3_blend 92 = .ok (.invokestatic 173, 3) := by decide +kernel
theorem dX3_blend_95 : decode cX3_blend 95 = .ok (.istore 4, 2) := by decide +kernel
theorem dX3_blend_97 : decode cX3_blend 97 = .ok (.bipush 10, 2) := by decide +kernel
theorem dX3_blend_99 : decode cX3_blend 99 = .ok (.iload 5, 2) := by decide +kernel
theorem dX3_blend_101 : decode cX3_blend 101 = .ok (.imul, 1) := by decide +kernel
theorem dX3_blend_102 : decode cX3_blend 102 = .ok (.iload 6, 2) := by decide +kernel
theorem dX3_blend_104 : decode cX3_blend 104 = .ok (.iadd, 1) := by decide +kernel
theorem dX3_blend_105 : decode cX3_blend 105 = .ok (.istore_n 3, 1) := by decide +kernel
theorem dX3_blend_106 : decode cX3_blend 106 = .ok (.iinc 6 1, 3) := by decide +kernel
theorem dX3_blend_109 : decode cX3_blend 109 = .ok (.goto (-63), 3) := by decide +kernel
theorem dX3_blend_112 : decode cX3_blend 112 = .ok (.iinc 5 1, 3) := by decide +kernel
theorem dX3_blend_115 : decode cX3_blend 115 = .ok (.goto (-87), 3) := by decide +kernel
theorem dX3_blend_118 : decode cX3_blend 118 = .ok (.iload_n 3, 1) := by decide +kernel
theorem dX3_blend_119 : decode cX3_blend 119 = .ok (.ireturn, 1) := by decide +kernel
theorem dX3_spread_0 : decode cX3_spread 0 = .ok (.bipush 100, 2) := by decide +kernel
theorem dX3_spread_2 : decode cX3_spread 2 = .ok (.istore_n 1, 1) := by decide +kernel
theorem dX3_spread_3 : decode cX3_spread 3 = .ok (.iconst (-1), 1) := by decide +kernel
theorem dX3_spread_4 : decode cX3_spread 4 = .ok (.istore_n 2, 1) := by decide +kernel
theorem dX3_spread_5 : decode cX3_spread 5 = .ok (.iconst 0, 1) := by decide +kernel
theorem dX3_spread_6 : decode cX3_spread 6 = .ok (.istore_n 3, 1) := by decide +kernel
theorem dX3_spread_7 : decode cX3_spread 7 = .ok (.iload_n 3, 1) := by decide +kernel
theorem dX3_spread_8 : decode cX3_spread 8 = .ok (.aload_n 0, 1) := by decide +kernel
theorem dX3_spread_9 : decode cX3_spread 9 = .ok (.getfield 10, 3) := by decide +kernel
theorem dX3_spread_12 : decode cX3_spread 12 = .ok (.getfield 161, 3) := by decide +kernel
theorem dX3_spread_15 : decode cX3_spread 15 = .ok (.if_icmp .ge 47, 3) := by decide +kernel
theorem dX3_spread_18 : decode cX3_spread 18 = .ok (.aload_n 0, 1) := by decide +kernel
theorem dX3_spread_19 : decode cX3_spread 19 = .ok (.getfield 10, 3) := by decide +kernel
theorem dX3_spread_22 : decode cX3_spread 22 = .ok (.iload_n 3, 1) := by decide +kernel
theorem dX3_spread_23 : decode cX3_spread 23 = .ok (.invokevirtual 76, 3) := by decide +kernel
theorem dX3_spread_26 : decode cX3_spread 26 = .ok (.astore 4, 2) := by decide +kernel
theorem dX3_spread_28 : decode cX3_spread 28 = .ok (.aload 4, 2) := by decide +kernel
theorem dX3_spread_30 : decode cX3_spread 30 = .ok (.getfield 88, 3) := by decide +kernel
theorem dX3_spread_33 : decode cX3_spread 33 = .ok (.ifCond .le 23, 3) := by decide +kernel
theorem dX3_spread_36 : decode cX3_spread 36 = .ok (.iload_n 1, 1) := by decide +kernel
theorem dX3_spread_37 : decode cX3_spread 37 = .ok (.aload 4, 2) := by decide +kernel
theorem dX3_spread_39 : decode cX3_spread 39 = .ok (.getfield 91, 3) := by decide +kernel
theorem dX3_spread_42 : decode cX3_spread 42 = .ok (.invokestatic 178, 3) := by decide +kernel
theorem dX3_spread_45 : decode cX3_spread 45 = .ok (.istore_n 1, 1) := by decide +kernel
theorem dX3_spread_46 : decode cX3_spread 46 = .ok (.iload_n 2, 1) := by decide +kernel
theorem dX3_spread_47 : decode cX3_spread 47 = .ok (.aload 4, 2) := by decide +kernel
theorem dX3_spread_49 : decode cX3_spread 49 = .ok (.getfield 91, 3) := by decide +kernel
theorem dX3_spread_52 : decode cX3_spread 52 = .ok (.invokestatic 181, 3) := by decide +kernel
theorem dX3_spread_55 : decode cX3_spread 55 = .ok (.istore_n 2, 1) := by decide +kernel
theorem dX3_spread_56 : decode cX3_spread 56 = .ok (.iinc 3 1, 3) := by decide +kernel
theorem dX3_spread_59 : decode cX3_spread 59 = .ok (.goto (-52), 3) := by decide +kernel
theorem dX3_spread_62 : decode cX3_spread 62 = .ok (.iload_n 2, 1) := by decide +kernel
theorem dX3_spread_63 : decode cX3_spread 63 = .ok (.ifCond .ge 8, 3) := by decide +kernel
theorem dX3_spread_66 : decode cX3_spread 66 = .ok (.bipush (-9), 2) := by decide +kernel
theorem dX3_spread_68 : decode cX3_spread 68 = .ok (.goto 6, 3) := by decide +kernel
theorem dX3_spread_71 : decode cX3_spread 71 = .ok (.iload_n 2, 1) := by decide +kernel
theorem dX3_spread_72 : decode cX3_spread 72 = .ok (.iload_n 1, 1) := by decide +kernel
theorem dX3_spread_73 : decode cX3_spread 73 = .ok (.isub, 1) := by decide +kernel
theorem dX3_spread_74 : decode cX3_spread 74 = .ok (.ireturn, 1) := by decide +kernel
theorem dX3_layDown_0 : decode cX3_layDown 0 = .ok (.iload_n 1, 1) := by decide +kernel
theorem dX3_layDown_1 : decode cX3_layDown 1 = .ok (.invokestatic 118, 3) := by decide +kernel
theorem dX3_layDown_4 : decode cX3_layDown 4 = .ok (.istore_n 2, 1) := by decide +kernel
theorem dX3_layDown_5 : decode cX3_layDown 5 = .ok (.iload_n 2, 1) := by decide +kernel
theorem dX3_layDown_6 : decode cX3_layDown 6 = .ok (.ifCond .eq 9, 3) := by decide +kernel
theorem dX3_layDown_9 : decode cX3_layDown 9 = .ok (.aload_n 0, 1) := by decide +kernel
theorem dX3_layDown_10 : decode cX3_layDown 10 = .ok (.iload_n 2, 1) := by decide +kernel
theorem dX3_layDown_11 : decode cX3_layDown 11 = .ok (.invokevirtual 56, 3) := by decide +kernel
theorem dX3_layDown_14 : decode cX3_layDown 14 = .ok (.ireturn, 1) := by decide +kernel
theorem dX3_layDown_15 : decode cX3_layDown 15 = .ok (.aload_n 0, 1) := by decide +kernel
theorem dX3_layDown_16 : decode cX3_layDown 16 = .ok (.iload_n 1, 1) := by decide +kernel
theorem dX3_layDown_17 : decode cX3_layDown 17 = .ok (.invokevirtual 121, 3) := by decide +kernel
theorem dX3_layDown_20 : decode cX3_layDown 20 = .ok (.bipush (-9), 2) := by decide +kernel
theorem dX3_layDown_22 : decode cX3_layDown 22 = .ok (.istore_n 3, 1) := by decide +kernel
theorem dX3_layDown_23 : decode cX3_layDown 23 = .ok (.iconst (-1), 1) := by decide +kernel
theorem dX3_layDown_24 : decode cX3_layDown 24 = .ok (.istore 4, 2) := by decide +kernel
theorem dX3_layDown_26 : decode cX3_layDown 26 = .ok (.iconst 0, 1) := by decide +kernel
theorem dX3_layDown_27 : decode cX3_layDown 27 = .ok (.istore 5, 2) := by decide +kernel
theorem dX3_layDown_29 : decode cX3_layDown 29 = .ok (.iload 5, 2) := by decide +kernel
theorem dX3_layDown_31 : decode cX3_layDown 31 = .ok (.aload_n 0, 1) := by decide +kernel
theorem dX3_layDown_32 : decode cX3_layDown 32 = .ok (.getfield 16, 3) := by decide +kernel
theorem dX3_layDown_35 : decode cX3_layDown 35 = .ok (.getfield 161, 3) := by decide +kernel
theorem dX3_layDown_38 : decode cX3_layDown 38 = .ok (.if_icmp .ge 43, 3) := by decide +kernel
theorem dX3_layDown_41 : decode cX3_layDown 41 = .ok (.aload_n 0, 1) := by decide +kernel
theorem dX3_layDown_42 : decode cX3_layDown 42 = .ok (.getfield 16, 3) := by decide +kernel
theorem dX3_layDown_45 : decode cX3_layDown 45 = .ok (.iload 5, 2) := by decide +kernel
theorem dX3_layDown_47 : decode cX3_layDown 47 = .ok (.invokevirtual 76, 3) := by decide +kernel
theorem dX3_layDown_50 : decode cX3_layDown 50 = .ok (.invokevirtual 184, 3) := by decide +kernel
theorem dX3_layDown_53 : decode cX3_layDown 53 = .ok (.iload 4, 2) := by decide +kernel
theorem dX3_layDown_55 : decode cX3_layDown 55 = .ok (.if_icmp .le 20, 3) := by decide +kernel
theorem dX3_layDown_58 : decode cX3_layDown 58 = .ok (.aload_n 0, 1) := by decide +kernel
theorem dX3_layDown_59 : decode cX3_layDown 59 = .ok (.getfield 16, 3) := by decide +kernel
theorem dX3_layDown_62 : decode cX3_layDown 62 = .ok (.iload 5, 2) := by decide +kernel
theorem dX3_layDown_64 : decode cX3_layDown 64 = .ok (.invokevirtual 76, 3) := by decide +kernel
theorem dX3_layDown_67 : decode cX3_layDown 67 = .ok (.invokevirtual 184, 3) := by decide +kernel
theorem dX3_layDown_70 : decode cX3_layDown 70 = .ok (.istore 4, 2) := by decide +kernel
theorem dX3_layDown_72 : decode cX3_layDown 72 = .ok (.iload 5, 2) := by decide +kernel
theorem dX3_layDown_74 : decode cX3_layDown 74 = .ok (.istore_n 3, 1) := by decide +kernel
theorem dX3_layDown_75 : decode cX3_layDown 75 = .ok (.iinc 5 1, 3) := by decide +kernel
theorem dX3_layDown_78 : decode cX3_layDown 78 = .ok (.goto (-49), 3) := by decide +kernel
theorem dX3_layDown_81 : decode cX3_layDown 81 = .ok (.iload_n 3, 1) := by decide +kernel
theorem dX3_layDown_82 : decode cX3_layDown 82 = .ok (.ireturn, 1) := by decide +kernel
theorem dX3_sell_0 : decode cX3_sell 0 = .ok (.iload_n 1, 1) := by decide +kernel
theorem dX3_sell_1 : decode cX3_sell 1 = .ok (.invokestatic 118, 3) := by decide +kernel
theorem dX3_sell_4 : decode cX3_sell 4 = .ok (.istore_n 2, 1) := by decide +kernel
theorem dX3_sell_5 : decode cX3_sell 5 = .ok (.iload_n 2, 1) := by decide +kernel
theorem dX3_sell_6 : decode cX3_sell 6 = .ok (.ifCond .eq 9, 3) := by decide +kernel
theorem dX3_sell_9 : decode cX3_sell 9 = .ok (.aload_n 0, 1) := by decide +kernel
theorem dX3_sell_10 : decode cX3_sell 10 = .ok (.iload_n 2, 1) := by decide +kernel
theorem dX3_sell_11 : decode cX3_sell 11 = .ok (.invokevirtual 56, 3) := by decide +kernel
theorem dX3_sell_14 : decode cX3_sell 14 = .ok (.ireturn, 1) := by decide +kernel
theorem dX3_sell_15 : decode cX3_sell 15 = .ok (.aload_n 0, 1) := by decide +kernel
theorem dX3_sell_16 : decode cX3_sell 16 = .ok (.iload_n 1, 1) := by decide +kernel
theorem dX3_sell_17 : decode cX3_sell 17 = .ok (.invokevirtual 121, 3) := by decide +kernel
theorem dX3_sell_20 : decode cX3_sell 20 = .ok (.bipush (-9), 2) := by decide +kernel
theorem dX3_sell_22 : decode cX3_sell 22 = .ok (.istore_n 3, 1) := by decide +kernel
theorem dX3_sell_23 : decode cX3_sell 23 = .ok (.iconst 0, 1) := by decide +kernel
theorem dX3_sell_24 : decode cX3_sell 24 = .ok (.istore 4, 2) := by decide +kernel
theorem dX3_sell_26 : decode cX3_sell 26 = .ok (.iload 4, 2) := by decide +kernel
theorem dX3_sell_28 : decode cX3_sell 28 = .ok (.aload_n 0, 1) := by decide +kernel
theorem dX3_sell_29 : decode cX3_sell 29 = .ok (.getfield 10, 3) := by decide +kernel
theorem dX3_sell_32 : decode cX3_sell 32 = .ok (.getfield 161, 3) := by decide +kernel
theorem dX3_sell_35 : decode cX3_sell 35 = .ok (.if_icmp .ge 41, 3) := by decide +kernel
theorem dX3_sell_38 : decode cX3_sell 38 = .ok (.aload_n 0, 1) := by decide +kernel
theorem dX3_sell_39 : decode cX3_sell 39 = .ok (.getfield 10, 3) := by decide +kernel
theorem dX3_sell_42 : decode cX3_sell 42 = .ok (.iload 4, 2) := by decide +kernel
theorem dX3_sell_44 : decode cX3_sell 44 = .ok (.invokevirtual 76, 3) := by decide +kernel
theorem dX3_sell_47 : decode cX3_sell 47 = .ok (.getfield 88, 3) := by decide +kernel
theorem dX3_sell_50 : decode cX3_sell 50 = .ok (.ifCond .le 20, 3) := by decide +kernel
theorem dX3_sell_53 : decode cX3_sell 53 = .ok (.iload_n 3, 1) := by decide +kernel
theorem dX3_sell_54 : decode cX3_sell 54 = .ok (.ifCond .lt 13, 3) := by decide +kernel
theorem dX3_sell_57 : decode cX3_sell 57 = .ok (.aload_n 0, 1) := by decide +kernel
theorem dX3_sell_58 : decode cX3_sell 58 = .ok (.iload 4, 2) := by decide +kernel
theorem dX3_sell_60 : decode cX3_sell 60 = .ok (.iload_n 3, 1) := by decide +kernel
theorem dX3_sell_61 : decode cX3_sell 61 = .ok (.invokevirtual 187, 3) := by decide +kernel
theorem dX3_sell_64 : decode cX3_sell 64 = .ok (.ifCond .eq 6, 3) := by decide +kernel
theorem dX3_sell_67 : decode cX3_sell 67 = .ok (.iload 4, 2) := by decide +kernel
theorem dX3_sell_69 : decode cX3_sell 69 = .ok (.istore_n 3, 1) := by decide +kernel
theorem dX3_sell_70 : decode cX3_sell 70 = .ok (.iinc 4 1, 3) := by decide +kernel
theorem dX3_sell_73 : decode cX3_sell 73 = .ok (.goto (-47), 3) := by decide +kernel
theorem dX3_sell_76 : decode cX3_sell 76 = .ok (.iload_n 3, 1) := by decide +kernel
theorem dX3_sell_77 : decode cX3_sell 77 = .ok (.ireturn, 1) := by decide +kernel
theorem dX3_treaty_0 : decode cX3_treaty 0 = .ok (.iload_n 1, 1) := by decide +kernel
theorem dX3_treaty_1 : decode cX3_treaty 1 = .ok (.invokestatic 118, 3) := by decide +kernel
theorem dX3_treaty_4 : decode cX3_treaty 4 = .ok (.istore_n 2, 1) := by decide +kernel
theorem dX3_treaty_5 : decode cX3_treaty 5 = .ok (.iload_n 2, 1) := by decide +kernel
theorem dX3_treaty_6 : decode cX3_treaty 6 = .ok (.ifCond .eq 9, 3) := by decide +kernel
theorem dX3_treaty_9 : decode cX3_treaty 9 = .ok (.aload_n 0, 1) := by decide +kernel
theorem dX3_treaty_10 : decode cX3_treaty 10 = .ok (.iload_n 2, 1) := by decide +kernel
theorem dX3_treaty_11 : decode cX3_treaty 11 = .ok (.invokevirtual 56, 3) := by decide +kernel
theorem dX3_treaty_14 : decode cX3_treaty 14 = .ok (.ireturn, 1) := by decide +kernel
theorem dX3_treaty_15 : decode cX3_treaty 15 = .ok (.iconst 0, 1) := by decide +kernel
theorem dX3_treaty_16 : decode cX3_treaty 16 = .ok (.istore_n 3, 1) := by decide +kernel
theorem dX3_treaty_17 : decode cX3_treaty 17 = .ok (.iload_n 3, 1) := by decide +kernel
theorem dX3_treaty_18 : decode cX3_treaty 18 = .ok (.iconst 2, 1) := by decide +kernel
theorem dX3_treaty_19 : decode cX3_treaty 19 = .ok (.if_icmp .ge 43, 3) := by decide +kernel
theorem dX3_treaty_22 : decode cX3_treaty 22 = .ok (.iconst 0, 1) := by decide +kernel
theorem dX3_treaty_23 : decode cX3_treaty 23 = .ok (.istore 4, 2) := by decide +kernel
theorem dX3_treaty_25 : decode cX3_treaty 25 = .ok (.iload 4, 2) := by decide +kernel
theorem dX3_treaty_27 : decode cX3_treaty 27 = .ok (.iconst 2, 1) := by decide +kernel
theorem dX3_treaty_28 : decode cX3_treaty 28 = .ok (.if_icmp .ge 28, 3) := by decide +kernel
theorem dX3_treaty_31 : decode cX3_treaty 31 = .ok (.aload_n 0, 1) := by decide +kernel
theorem dX3_treaty_32 : decode cX3_treaty 32 = .ok (.iload_n 1, 1) := by decide +kernel
theorem dX3_treaty_33 : decode cX3_treaty 33 = .ok (.iload_n 3, 1) := by decide +kernel
theorem dX3_treaty_34 : decode cX3_treaty 34 = .ok (.iload 4, 2) := by decide +kernel
theorem dX3_treaty_36 : decode cX3_treaty 36 = .ok (.invokevirtual 191, 3) := by decide +kernel
theorem dX3_treaty_39 : decode cX3_treaty 39 = .ok (.ifCond .eq 11, 3) := by decide +kernel
theorem dX3_treaty_42 : decode cX3_treaty 42 = .ok (.bipush 10, 2) := by decide +kernel
theorem dX3_treaty_44 : decode cX3_treaty 44 = .ok (.iload_n 3, 1) := by decide +kernel
theorem dX3_treaty_45 : decode cX3_treaty 45 = .ok (.imul, 1) := by decide +kernel
theorem dX3_treaty_46 : decode cX3_treaty 46 = .ok (.iload 4, 2) := by decide +kernel
theorem dX3_treaty_48 : decode cX3_treaty 48 = .ok (.iadd, 1) := by decide +kernel
theorem dX3_treaty_49 : decode cX3_treaty 49 = .ok (.ireturn, 1) := by decide +kernel
theorem dX3_treaty_50 : decode cX3_treaty 50 = .ok (.iinc 4 1, 3) := by decide +kernel
theorem dX3_treaty_53 : decode cX3_treaty 53 = .ok (.goto (-28), 3) := by decide +kernel
theorem dX3_treaty_56 : decode cX3_treaty 56 = .ok (.iinc 3 1, 3) := by decide +kernel
theorem dX3_treaty_59 : decode cX3_treaty 59 = .ok (.goto (-42), 3) := by decide +kernel
theorem dX3_treaty_62 : decode cX3_treaty 62 = .ok (.bipush (-9), 2) := by decide +kernel
theorem dX3_treaty_64 : decode cX3_treaty 64 = .ok (.ireturn, 1) := by decide +kernel
theorem dX3_bestSet_0 : decode cX3_bestSet 0 = .ok (.iload_n 1, 1) := by decide +kernel
theorem dX3_bestSet_1 : decode cX3_bestSet 1 = .ok (.invokestatic 118, 3) := by decide +kernel
theorem dX3_bestSet_4 : decode cX3_bestSet 4 = .ok (.iload_n 2, 1) := by decide +kernel
theorem dX3_bestSet_5 : decode cX3_bestSet 5 = .ok (.iconst 1, 1) := by decide +kernel
theorem dX3_bestSet_6 : decode cX3_bestSet 6 = .ok (.invokestatic 69, 3) := by decide +kernel
theorem dX3_bestSet_9 : decode cX3_bestSet 9 = .ok (.iconst 0, 1) := by decide +kernel
theorem dX3_bestSet_10 : decode cX3_bestSet 10 = .ok (.invokestatic 73, 3) := by decide +kernel
theorem dX3_bestSet_13 : decode cX3_bestSet 13 = .ok (.istore_n 3, 1) := by decide +kernel
theorem dX3_bestSet_14 : decode cX3_bestSet 14 = .ok (.iload_n 3, 1) := by decide +kernel
theorem dX3_bestSet_15 : decode cX3_bestSet 15 = .ok (.ifCond .eq 9, 3) := by decide +kernel
theorem dX3_bestSet_18 : decode cX3_bestSet 18 = .ok (.aload_n 0, 1) := by decide +kernel
theorem dX3_bestSet_19 : decode cX3_bestSet 19 = .ok (.iload_n 3, 1) := by decide +kernel
theorem dX3_bestSet_20 : decode cX3_bestSet 20 = .ok (.invokevirtual 56, 3) := by decide +kernel
theorem dX3_bestSet_23 : decode cX3_bestSet 23 = .ok (.ireturn, 1) := by decide +kernel
theorem dX3_bestSet_24 : decode cX3_bestSet 24 = .ok (.bipush (-9), 2) := by decide +kernel
theorem dX3_bestSet_26 : decode cX3_bestSet 26 = .ok (.istore 4, 2) := by decide +kernel
theorem dX3_bestSet_28 : decode cX3_bestSet 28 = .ok (.iconst (-1), 1) := by decide +kernel
theorem dX3_bestSet_29 : decode cX3_bestSet 29 = .ok (.istore 5, 2) := by decide +kernel
theorem dX3_bestSet_31 : decode cX3_bestSet 31 = .ok (.iload_n 2, 1) := by decide +kernel
theorem dX3_bestSet_32 : decode cX3_bestSet 32 = .ok (.invokestatic 195, 3) := by decide +kernel
theorem dX3_bestSet_35 : decode cX3_bestSet 35 = .ok (.istore 6, 2) := by decide +kernel
theorem dX3_bestSet_37 : decode cX3_bestSet 37 = .ok (.iload 6, 2) := by decide +kernel
theorem dX3_bestSet_39 : decode cX3_bestSet 39 = .ok (.iload_n 2, 1) := by decide +kernel
theorem dX3_bestSet_40 : decode cX3_bestSet 40 = .ok (.invokestatic 198, 3) := by decide +kernel
theorem dX3_bestSet_43 : decode cX3_bestSet 43 = .ok (.if_icmp .gt 64, 3) := by decide +kernel
theorem dX3_bestSet_46 : decode cX3_bestSet 46 = .ok (.aload_n 0, 1) := by decide +kernel
theorem dX3_bestSet_47 : decode cX3_bestSet 47 = .ok (.getfield 16, 3) := by decide +kernel
theorem dX3_bestSet_50 : decode cX3_bestSet 50 = .ok (.aload_n 0, 1) := by decide +kernel
theorem dX3_bestSet_51 : decode cX3_bestSet 51 = .ok (.getfield 10, 3) := by decide +kernel
theorem dX3_bestSet_54 : decode cX3_bestSet 54 = .ok (.invokevirtual 151, 3) := by decide +kernel
theorem dX3_bestSet_57 : decode cX3_bestSet 57 = .ok (.aload_n 0, 1) := by decide +kernel
theorem dX3_bestSet_58 : decode cX3_bestSet 58 = .ok (.getfield 16, 3) := by decide +kernel
theorem dX3_bestSet_61 : decode cX3_bestSet 61 = .ok (.iload_n 2, 1) := by decide +kernel
theorem dX3_bestSet_62 : decode cX3_bestSet 62 = .ok (.iload 6, 2) := by decide +kernel
theorem dX3_bestSet_64 : decode cX3_bestSet 64 = .ok (.invokevirtual 103, 3) := by decide +kernel
theorem dX3_bestSet_67 : decode cX3_bestSet 67 = .ok (.pop, 1) := by decide +kernel
theorem dX3_bestSet_68 : decode cX3_bestSet 68 = .ok (.aload_n 0, 1) := by decide +kernel
theorem dX3_bestSet_69 : decode cX3_bestSet 69 = .ok (.getfield 16, 3) := by decide +kernel
theorem dX3_bestSet_72 : decode cX3_bestSet 72 = .ok (.iload_n 1, 1) := by decide +kernel
theorem dX3_bestSet_73 : decode cX3_bestSet 73 = .ok (.invokevirtual 155, 3) := by decide +kernel
theorem dX3_bestSet_76 : decode cX3_bestSet 76 = .ok (.aload_n 0, 1) := by decide +kernel
theorem dX3_bestSet_77 : decode cX3_bestSet 77 = .ok (.getfield 16, 3) := by decide +kernel
theorem dX3_bestSet_80 : decode cX3_bestSet 80 = .ok (.invokevirtual 128, 3) := by decide +kernel
theorem dX3_bestSet_83 : decode cX3_bestSet 83 = .ok (.iload 5, 2) := by decide +kernel
theorem dX3_bestSet_85 : decode cX3_bestSet 85 = .ok (.if_icmp .le 16, 3) := by decide +kernel
theorem dX3_bestSet_88 : decode cX3_bestSet 88 = .ok (.aload_n 0, 1) := by decide +kernel
theorem dX3_bestSet_89 : decode cX3_bestSet 89 = .ok (.getfield 16, 3) := by decide +kernel
theorem dX3_bestSet_92 : decode cX3_bestSet 92 = .ok (.invokevirtual 128, 3) := by decide +kernel
theorem dX3_bestSet_95 : decode cX3_bestSet 95 = .ok (.istore 5, 2) := by decide +kernel
theorem dX3_bestSet_97 : decode cX3_bestSet 97 = .ok (.iload 6, 2) := by decide +kernel
theorem dX3_bestSet_99 : decode cX3_bestSet 99 = .ok (.istore 4, 2) := by decide +kernel
theorem dX3_bestSet_101 : decode cX3_bestSet 101 = .ok (.iinc 6 1, 3) := by decide +kernel
theorem dX3_bestSet_104 : decode cX3_bestSet 104 = .ok (.goto (-67), 3) := by decide +kernel
theorem dX3_bestSet_107 : decode cX3_bestSet 107 = .ok (.iload 4, 2) := by decide +kernel
theorem dX3_bestSet_109 : decode cX3_bestSet 109 = .ok (.ireturn, 1) := by decide +kernel
theorem dX3_iron_0 : decode cX3_iron 0 = .ok (.iload_n 1, 1) := by decide +kernel
theorem dX3_iron_1 : decode cX3_iron 1 = .ok (.invokestatic 118, 3) := by decide +kernel
theorem dX3_iron_4 : decode cX3_iron 4 = .ok (.istore_n 2, 1) := by decide +kernel
theorem dX3_iron_5 : decode cX3_iron 5 = .ok (.iload_n 2, 1) := by decide +kernel
theorem dX3_iron_6 : decode cX3_iron 6 = .ok (.ifCond .eq 9, 3) := by decide +kernel
theorem dX3_iron_9 : decode cX3_iron 9 = .ok (.aload_n 0, 1) := by decide +kernel
theorem dX3_iron_10 : decode cX3_iron 10 = .ok (.iload_n 2, 1) := by decide +kernel
theorem dX3_iron_11 : decode cX3_iron 11 = .ok (.invokevirtual 56, 3) := by decide +kernel
theorem dX3_iron_14 : decode cX3_iron 14 = .ok (.ireturn, 1) := by decide +kernel
theorem dX3_iron_15 : decode cX3_iron 15 = .ok (.aload_n 0, 1) := by decide +kernel
theorem dX3_iron_16 : decode cX3_iron 16 = .ok (.iload_n 1, 1) := by decide +kernel
theorem dX3_iron_17 : decode cX3_iron 17 = .ok (.invokevirtual 121, 3) := by decide +kernel
theorem dX3_iron_20 : decode cX3_iron 20 = .ok (.bipush (-9), 2) := by decide +kernel
theorem dX3_iron_22 : decode cX3_iron 22 = .ok (.istore_n 3, 1) := by decide +kernel
theorem dX3_iron_23 : decode cX3_iron 23 = .ok (.aload_n 0, 1) := by decide +kernel
theorem dX3_iron_24 : decode cX3_iron 24 = .ok (.getfield 16, 3) := by decide +kernel
theorem dX3_iron_27 : decode cX3_iron 27 = .ok (.invokevirtual 125, 3) := by decide +kernel
theorem dX3_iron_30 : decode cX3_iron 30 = .ok (.istore 4, 2) := by decide +kernel
theorem dX3_iron_32 : decode cX3_iron 32 = .ok (.iconst 0, 1) := by decide +kernel
theorem dX3_iron_33 : decode cX3_iron 33 = .ok (.istore 5, 2) := by decide +kernel
theorem dX3_iron_35 : decode cX3_iron 35 = .ok (.iload 5, 2) := by decide +kernel
theorem dX3_iron_37 : decode cX3_iron 37 = .ok (.aload_n 0, 1) := by decide +kernel
theorem dX3_iron_38 : decode cX3_iron 38 = .ok (.getfield 10, 3) := by decide +kernel
theorem dX3_iron_41 : decode cX3_iron 41 = .ok (.getfield 161, 3) := by decide +kernel
theorem dX3_iron_44 : decode cX3_iron 44 = .ok (.if_icmp .ge 65, 3) := by decide +kernel
theorem dX3_iron_47 : decode cX3_iron 47 = .ok (.aload_n 0, 1) := by decide +kernel
theorem dX3_iron_48 : decode cX3_iron 48 = .ok (.getfield 16, 3) := by decide +kernel
theorem dX3_iron_51 : decode cX3_iron 51 = .ok (.aload_n 0, 1) := by decide +kernel
theorem dX3_iron_52 : decode cX3_iron 52 = .ok (.getfield 10, 3) := by decide +kernel
theorem dX3_iron_55 : decode cX3_iron 55 = .ok (.invokevirtual 151, 3) := by decide +kernel
theorem dX3_iron_58 : decode cX3_iron 58 = .ok (.aload_n 0, 1) := by decide +kernel
theorem dX3_iron_59 : decode cX3_iron 59 = .ok (.getfield 16, 3) := by decide +kernel
theorem dX3_iron_62 : decode cX3_iron 62 = .ok (.iload 5, 2) := by decide +kernel
theorem dX3_iron_64 : decode cX3_iron 64 = .ok (.invokevirtual 76, 3) := by decide +kernel
theorem dX3_iron_67 : decode cX3_iron 67 = .ok (.iconst 3, 1) := by decide +kernel
theorem dX3_iron_68 : decode cX3_iron 68 = .ok (.putfield 80, 3) := by decide +kernel
theorem dX3_iron_71 : decode cX3_iron 71 = .ok (.aload_n 0, 1) := by decide +kernel
theorem dX3_iron_72 : decode cX3_iron 72 = .ok (.getfield 16, 3) := by decide +kernel
theorem dX3_iron_75 : decode cX3_iron 75 = .ok (.iload_n 1, 1) := by decide +kernel
theorem dX3_iron_76 : decode cX3_iron 76 = .ok (.invokevirtual 155, 3) := by decide +kernel
theorem dX3_iron_79 : decode cX3_iron 79 = .ok (.aload_n 0, 1) := by decide +kernel
theorem dX3_iron_80 : decode cX3_iron 80 = .ok (.getfield 16, 3) := by decide +kernel
theorem dX3_iron_83 : decode cX3_iron 83 = .ok (.invokevirtual 125, 3) := by decide +kernel
theorem dX3_iron_86 : decode cX3_iron 86 = .ok (.iload 4, 2) := by decide +kernel
theorem dX3_iron_88 : decode cX3_iron 88 = .ok (.if_icmp .le 15, 3) := by decide +kernel
theorem dX3_iron_91 : decode cX3_iron 91 = .ok (.aload_n 0, 1) := by decide +kernel
theorem dX3_iron_92 : decode cX3_iron 92 = .ok (.getfield 16, 3) := by decide +kernel
theorem dX3_iron_95 : decode cX3_iron 95 = .ok (.invokevirtual 125, 3) := by decide +kernel
theorem dX3_iron_98 : decode cX3_iron 98 = .ok (.istore 4, 2) := by decide +kernel
theorem dX3_iron_100 : decode cX3_iron 100 = .ok (.iload 5, 2) := by decide +kernel
theorem dX3_iron_102 : decode cX3_iron 102 = .ok (.istore_n 3, 1) := by decide +kernel
theorem dX3_iron_103 : decode cX3_iron 103 = .ok (.iinc 5 1, 3) := by decide +kernel
theorem dX3_iron_106 : decode cX3_iron 106 = .ok (.goto (-71), 3) := by decide +kernel
theorem dX3_iron_109 : decode cX3_iron 109 = .ok (.iload_n 3, 1) := by decide +kernel
theorem dX3_iron_110 : decode cX3_iron 110 = .ok (.ireturn, 1) := by decide +kernel
theorem dX3_row_0 : decode cX3_row 0 = .ok (.iload_n 1, 1) := by decide +kernel
theorem dX3_row_1 : decode cX3_row 1 = .ok (.iconst 0, 1) := by decide +kernel
theorem dX3_row_2 : decode cX3_row 2 = .ok (.bipush 99, 2) := by decide +kernel
theorem dX3_row_4 : decode cX3_row 4 = .ok (.invokestatic 44, 3) := by decide +kernel
theorem dX3_row_7 : decode cX3_row 7 = .ok (.istore_n 2, 1) := by decide +kernel
theorem dX3_row_8 : decode cX3_row 8 = .ok (.iload_n 2, 1) := by decide +kernel
theorem dX3_row_9 : decode cX3_row 9 = .ok (.ifCond .ne 15, 3) := by decide +kernel
theorem dX3_row_12 : decode cX3_row 12 = .ok (.aload_n 0, 1) := by decide +kernel
theorem dX3_row_13 : decode cX3_row 13 = .ok (.getfield 37, 3) := by decide +kernel
theorem dX3_row_16 : decode cX3_row 16 = .ok (.bipush 12, 2) := by decide +kernel
theorem dX3_row_18 : decode cX3_row 18 = .ok (.if_icmp .lt 6, 3) := by decide +kernel
theorem dX3_row_21 : decode cX3_row 21 = .ok (.bipush (-6), 2) := by decide +kernel
theorem dX3_row_23 : decode cX3_row 23 = .ok (.istore_n 2, 1) := by decide +kernel
theorem dX3_row_24 : decode cX3_row 24 = .ok (.iload_n 2, 1) := by decide +kernel
theorem dX3_row_25 : decode cX3_row 25 = .ok (.ifCond .eq 9, 3) := by decide +kernel
theorem dX3_row_28 : decode cX3_row 28 = .ok (.aload_n 0, 1) := by decide +kernel
theorem dX3_row_29 : decode cX3_row 29 = .ok (.iload_n 2, 1) := by decide +kernel
theorem dX3_row_30 : decode cX3_row 30 = .ok (.invokevirtual 56, 3) := by decide +kernel
theorem dX3_row_33 : decode cX3_row 33 = .ok (.ireturn, 1) := by decide +kernel
theorem dX3_row_34 : decode cX3_row 34 = .ok (.aload_n 0, 1) := by decide +kernel
theorem dX3_row_35 : decode cX3_row 35 = .ok (.getfield 37, 3) := by decide +kernel
theorem dX3_row_38 : decode cX3_row 38 = .ok (.ifCond .lt 35, 3) := by decide +kernel
theorem dX3_row_41 : decode cX3_row 41 = .ok (.aload_n 0, 1) := by decide +kernel
theorem dX3_row_42 : decode cX3_row 42 = .ok (.getfield 37, 3) := by decide +kernel
theorem dX3_row_45 : decode cX3_row 45 = .ok (.aload_n 0, 1) := by decide +kernel
theorem dX3_row_46 : decode cX3_row 46 = .ok (.getfield 33, 3) := by decide +kernel
theorem dX3_row_49 : decode cX3_row 49 = .ok (.arraylength, 1) := by decide +kernel
theorem dX3_row_50 : decode cX3_row 50 = .ok (.if_icmp .ge 23, 3) := by decide +kernel
theorem dX3_row_53 : decode cX3_row 53 = .ok (.aload_n 0, 1) := by decide +kernel
theorem dX3_row_54 : decode cX3_row 54 = .ok (.getfield 33, 3) := by decide +kernel
theorem dX3_row_57 : decode cX3_row 57 = .ok (.aload_n 0, 1) := by decide +kernel
theorem dX3_row_58 : decode cX3_row 58 = .ok (.getfield 37, 3) := by decide +kernel
theorem dX3_row_61 : decode cX3_row 61 = .ok (.iload_n 1, 1) := by decide +kernel
theorem dX3_row_62 : decode cX3_row 62 = .ok (.iastore, 1) := by decide +kernel
theorem dX3_row_63 : decode cX3_row 63 = .ok (.aload_n 0, 1) := by decide +kernel
theorem dX3_row_64 : decode cX3_row 64 = .ok (.dup, 1) := by decide +kernel
theorem dX3_row_65 : decode cX3_row 65 = .ok (.getfield 37, 3) := by decide +kernel
theorem dX3_row_68 : decode cX3_row 68 = .ok (.iconst 1, 1) := by decide +kernel
theorem dX3_row_69 : decode cX3_row 69 = .ok (.iadd, 1) := by decide +kernel
theorem dX3_row_70 : decode cX3_row 70 = .ok (.putfield 37, 3) := by decide +kernel
theorem dX3_row_73 : decode cX3_row 73 = .ok (.aload_n 0, 1) := by decide +kernel
theorem dX3_row_74 : decode cX3_row 74 = .ok (.getfield 37, 3) := by decide +kernel
theorem dX3_row_77 : decode cX3_row 77 = .ok (.ireturn, 1) := by decide +kernel
theorem dX3_which_0 : decode cX3_which 0 = .ok (.aload_n 0, 1) := by decide +kernel
theorem dX3_which_1 : decode cX3_which 1 = .ok (.getfield 10, 3) := by decide +kernel
theorem dX3_which_4 : decode cX3_which 4 = .ok (.iload_n 1, 1) := by decide +kernel
theorem dX3_which_5 : decode cX3_which 5 = .ok (.invokevirtual 66, 3) := by decide +kernel
theorem dX3_which_8 : decode cX3_which 8 = .ok (.iload_n 2, 1) := by decide +kernel
theorem dX3_which_9 : decode cX3_which 9 = .ok (.iconst 1, 1) := by decide +kernel
theorem dX3_which_10 : decode cX3_which 10 = .ok (.invokestatic 69, 3) := by decide +kernel
theorem dX3_which_13 : decode cX3_which 13 = .ok (.iconst 0, 1) := by decide +kernel
theorem dX3_which_14 : decode cX3_which 14 = .ok (.invokestatic 73, 3) := by decide +kernel
theorem dX3_which_17 : decode cX3_which 17 = .ok (.istore_n 3, 1) := by decide +kernel
theorem dX3_which_18 : decode cX3_which 18 = .ok (.iload_n 3, 1) := by decide +kernel
theorem dX3_which_19 : decode cX3_which 19 = .ok (.ifCond .eq 9, 3) := by decide +kernel
theorem dX3_which_22 : decode cX3_which 22 = .ok (.aload_n 0, 1) := by decide +kernel
theorem dX3_which_23 : decode cX3_which 23 = .ok (.iload_n 3, 1) := by decide +kernel
theorem dX3_which_24 : decode cX3_which 24 = .ok (.invokevirtual 56, 3) := by decide +kernel
theorem dX3_which_27 : decode cX3_which 27 = .ok (.ireturn, 1) := by decide +kernel
theorem dX3_which_28 : decode cX3_which 28 = .ok (.iload_n 2, 1) := by decide +kernel
theorem dX3_which_29 : decode cX3_which 29 = .ok (.ifCond .ne 11, 3) := by decide +kernel
theorem dX3_which_32 : decode cX3_which 32 = .ok (.aload_n 0, 1) := by decide +kernel
theorem dX3_which_33 : decode cX3_which 33 = .ok (.iload_n 1, 1) := by decide +kernel
theorem dX3_which_34 : decode cX3_which 34 = .ok (.invokevirtual 201, 3) := by decide +kernel
theorem dX3_which_37 : decode cX3_which 37 = .ok (.goto 8, 3) := by decide +kernel
theorem dX3_which_40 : decode cX3_which 40 = .ok (.aload_n 0, 1) := by decide +kernel
theorem dX3_which_41 : decode cX3_which 41 = .ok (.iload_n 1, 1) := by decide +kernel
theorem dX3_which_42 : decode cX3_which 42 = .ok (.invokevirtual 204, 3) := by decide +kernel
theorem dX3_which_45 : decode cX3_which 45 = .ok (.ireturn, 1) := by decide +kernel
theorem dX3_judge_0 : decode cX3_judge 0 = .ok (.aload_n 0, 1) := by decide +kernel
theorem dX3_judge_1 : decode cX3_judge 1 = .ok (.getfield 10, 3) := by decide +kernel
theorem dX3_judge_4 : decode cX3_judge 4 = .ok (.iload_n 1, 1) := by decide +kernel
theorem dX3_judge_5 : decode cX3_judge 5 = .ok (.invokevirtual 66, 3) := by decide +kernel
theorem dX3_judge_8 : decode cX3_judge 8 = .ok (.istore_n 2, 1) := by decide +kernel
theorem dX3_judge_9 : decode cX3_judge 9 = .ok (.iload_n 2, 1) := by decide +kernel
theorem dX3_judge_10 : decode cX3_judge 10 = .ok (.ifCond .eq 9, 3) := by decide +kernel
theorem dX3_judge_13 : decode cX3_judge 13 = .ok (.aload_n 0, 1) := by decide +kernel
theorem dX3_judge_14 : decode cX3_judge 14 = .ok (.iload_n 2, 1) := by decide +kernel
theorem dX3_judge_15 : decode cX3_judge 15 = .ok (.invokevirtual 56, 3) := by decide +kernel
theorem dX3_judge_18 : decode cX3_judge 18 = .ok (.ireturn, 1) := by decide +kernel
theorem dX3_judge_19 : decode cX3_judge 19 = .ok (.aload_n 0, 1) := by decide +kernel
theorem dX3_judge_20 : decode cX3_judge 20 = .ok (.getfield 16, 3) := by decide +kernel
theorem dX3_judge_23 : decode cX3_judge 23 = .ok (.aload_n 0, 1) := by decide +kernel
theorem dX3_judge_24 : decode cX3_judge 24 = .ok (.getfield 10, 3) := by decide +kernel
theorem dX3_judge_27 : decode cX3_judge 27 = .ok (.invokevirtual 151, 3) := by decide +kernel
theorem dX3_judge_30 : decode cX3_judge 30 = .ok (.aload_n 0, 1) := by decide +kernel
theorem dX3_judge_31 : decode cX3_judge 31 = .ok (.iload_n 1, 1) := by decide +kernel
theorem dX3_judge_32 : decode cX3_judge 32 = .ok (.invokevirtual 207, 3) := by decide +kernel
theorem dX3_judge_35 : decode cX3_judge 35 = .ok (.istore_n 3, 1) := by decide +kernel
theorem dX3_judge_36 : decode cX3_judge 36 = .ok (.aload_n 0, 1) := by decide +kernel
theorem dX3_judge_37 : decode cX3_judge 37 = .ok (.iconst 0, 1) := by decide +kernel
theorem dX3_judge_38 : decode cX3_judge 38 = .ok (.putfield 37, 3) := by decide +kernel
theorem dX3_judge_41 : decode cX3_judge 41 = .ok (.iload_n 3, 1) := by decide +kernel
theorem dX3_judge_42 : decode cX3_judge 42 = .ok (.ireturn, 1) := by decide +kernel
theorem dX3_chance_0 : decode cX3_chance 0 = .ok (.aload_n 0, 1) := by decide +kernel
theorem dX3_chance_1 : decode cX3_chance 1 = .ok (.getfield 10, 3) := by decide +kernel
theorem dX3_chance_4 : decode cX3_chance 4 = .ok (.iload_n 1, 1) := by decide +kernel
theorem dX3_chance_5 : decode cX3_chance 5 = .ok (.invokevirtual 66, 3) := by decide +kernel
theorem dX3_chance_8 : decode cX3_chance 8 = .ok (.iload_n 2, 1) := by decide +kernel
theorem dX3_chance_9 : decode cX3_chance 9 = .ok (.iload_n 3, 1) := by decide +kernel
theorem dX3_chance_10 : decode cX3_chance 10 = .ok (.iload 4, 2) := by decide +kernel
theorem dX3_chance_12 : decode cX3_chance 12 = .ok (.invokestatic 210, 3) := by decide +kernel
theorem dX3_chance_15 : decode cX3_chance 15 = .ok (.iload 5, 2) := by decide +kernel
theorem dX3_chance_17 : decode cX3_chance 17 = .ok (.iconst 1, 1) := by decide +kernel
theorem dX3_chance_18 : decode cX3_chance 18 = .ok (.invokestatic 69, 3) := by decide +kernel
theorem dX3_chance_21 : decode cX3_chance 21 = .ok (.invokestatic 73, 3) := by decide +kernel
theorem dX3_chance_24 : decode cX3_chance 24 = .ok (.istore 6, 2) := by decide +kernel
theorem dX3_chance_26 : decode cX3_chance 26 = .ok (.iload 6, 2) := by decide +kernel
theorem dX3_chance_28 : decode cX3_chance 28 = .ok (.ifCond .eq 10, 3) := by decide +kernel
theorem dX3_chance_31 : decode cX3_chance 31 = .ok (.aload_n 0, 1) := by decide +kernel
theorem dX3_chance_32 : decode cX3_chance 32 = .ok (.iload 6, 2) := by decide +kernel
theorem dX3_chance_34 : decode cX3_chance 34 = .ok (.invokevirtual 137, 3) := by decide +kernel
theorem dX3_chance_37 : decode cX3_chance 37 = .ok (.lreturn, 1) := by decide +kernel
theorem dX3_chance_38 : decode cX3_chance 38 = .ok (.lconst 0, 1) := by decide +kernel
theorem dX3_chance_39 : decode cX3_chance 39 = .ok (.lstore 7, 2) := by decide +kernel
theorem dX3_chance_41 : decode cX3_chance 41 = .ok (.iconst 0, 1) := by decide +kernel
theorem dX3_chance_42 : decode cX3_chance 42 = .ok (.istore 9, 2) := by decide +kernel
theorem dX3_chance_44 : decode cX3_chance 44 = .ok (.iload 9, 2) := by decide +kernel
theorem dX3_chance_46 : decode cX3_chance 46 = .ok (.iconst 1, 1) := by decide +kernel
theorem dX3_chance_47 : decode cX3_chance 47 = .ok (.iload_n 3, 1) := by decide +kernel
theorem dX3_chance_48 : decode cX3_chance 48 = .ok (.ishl, 1) := by decide +kernel
theorem dX3_chance_49 : decode cX3_chance 49 = .ok (.if_icmp .ge 41, 3) := by decide +kernel
theorem dX3_chance_52 : decode cX3_chance 52 = .ok (.aload_n 0, 1) := by decide +kernel
theorem dX3_chance_53 : decode cX3_chance 53 = .ok (.iload_n 1, 1) := by decide +kernel
theorem dX3_chance_54 : decode cX3_chance 54 = .ok (.iload_n 3, 1) := by decide +kernel
theorem dX3_chance_55 : decode cX3_chance 55 = .ok (.iload 9, 2) := by decide +kernel
theorem dX3_chance_57 : decode cX3_chance 57 = .ok (.invokevirtual 213, 3) := by decide +kernel
theorem dX3_chance_60 : decode cX3_chance 60 = .ok (.iload_n 2, 1) := by decide +kernel
theorem dX3_chance_61 : decode cX3_chance 61 = .ok (.if_icmp .lt 23, 3) := by decide +kernel
theorem dX3_chance_64 : decode cX3_chance 64 = .ok (.lload 7, 2) := by decide +kernel
theorem dX3_chance_66 : decode cX3_chance 66 = .ok (.iload 4, 2) := by decide +kernel
theorem dX3_chance_68 : decode cX3_chance 68 = .ok (.iconst 1, 1) := by decide +kernel
theorem dX3_chance_69 : decode cX3_chance 69 = .ok (.isub, 1) := by decide +kernel
theorem dX3_chance_70 : decode cX3_chance 70 = .ok (.i2l, 1) := by decide +kernel
theorem dX3_chance_71 : decode cX3_chance 71 = .ok (.iload_n 3, 1) := by decide +kernel
theorem dX3_chance_72 : decode cX3_chance 72 = .ok (.iload 9, 2) := by decide +kernel
theorem dX3_chance_74 : decode cX3_chance 74 = .ok (.invokestatic 216, 3) := by decide +kernel
theorem dX3_chance_77 : decode cX3_chance 77 = .ok (.isub, 1) := by decide +kernel
theorem dX3_chance_78 : decode cX3_chance 78 = .ok (.invokestatic 221, 3) := by decide +kernel
theorem dX3_chance_81 : decode cX3_chance 81 = .ok (.ladd, 1) := by decide +kernel
theorem dX3_chance_82 : decode cX3_chance 82 = .ok (.lstore 7, 2) := by decide +kernel
theorem dX3_chance_84 : decode cX3_chance 84 = .ok (.iinc 9 1, 3) := by decide +kernel
theorem dX3_chance_87 : decode cX3_chance 87 = .ok (.goto (-43), 3) := by decide +kernel
theorem dX3_chance_90 : decode cX3_chance 90 = .ok (.lload 7, 2) := by decide +kernel
theorem dX3_chance_92 : decode cX3_chance 92 = .ok (.iload 4, 2) := by decide +kernel
theorem dX3_chance_94 : decode cX3_chance 94 = .ok (.i2l, 1) := by decide +kernel
theorem dX3_chance_95 : decode cX3_chance 95 = .ok (.iload_n 3, 1) := by decide +kernel
theorem dX3_chance_96 : decode cX3_chance 96 = .ok (.invokestatic 221, 3) := by decide +kernel
theorem dX3_chance_99 : decode cX3_chance 99 = .ok (.iload 5, 2) := by decide +kernel
theorem dX3_chance_101 : decode cX3_chance 101 = .ok (.invokestatic 141, 3) := by decide +kernel
theorem dX3_chance_104 : decode cX3_chance 104 = .ok (.lreturn, 1) := by decide +kernel
theorem dX3_lots_0 : decode cX3_lots 0 = .ok (.iload_n 1, 1) := by decide +kernel
theorem dX3_lots_1 : decode cX3_lots 1 = .ok (.iconst 1, 1) := by decide +kernel
theorem dX3_lots_2 : decode cX3_lots 2 = .ok (.bipush 20, 2) := by decide +kernel
theorem dX3_lots_4 : decode cX3_lots 4 = .ok (.invokestatic 44, 3) := by decide +kernel
theorem dX3_lots_7 : decode cX3_lots 7 = .ok (.iload_n 3, 1) := by decide +kernel
theorem dX3_lots_8 : decode cX3_lots 8 = .ok (.iconst 1, 1) := by decide +kernel
theorem dX3_lots_9 : decode cX3_lots 9 = .ok (.invokestatic 69, 3) := by decide +kernel
theorem dX3_lots_12 : decode cX3_lots 12 = .ok (.iconst 0, 1) := by decide +kernel
theorem dX3_lots_13 : decode cX3_lots 13 = .ok (.invokestatic 73, 3) := by decide +kernel
theorem dX3_lots_16 : decode cX3_lots 16 = .ok (.istore 4, 2) := by decide +kernel
theorem dX3_lots_18 : decode cX3_lots 18 = .ok (.iload 4, 2) := by decide +kernel
theorem dX3_lots_20 : decode cX3_lots 20 = .ok (.ifCond .eq 10, 3) := by decide +kernel
theorem dX3_lots_23 : decode cX3_lots 23 = .ok (.aload_n 0, 1) := by decide +kernel
theorem dX3_lots_24 : decode cX3_lots 24 = .ok (.iload 4, 2) := by decide +kernel
theorem dX3_lots_26 : decode cX3_lots 26 = .ok (.invokevirtual 56, 3) := by decide +kernel
theorem dX3_lots_29 : decode cX3_lots 29 = .ok (.ireturn, 1) := by decide +kernel
theorem dX3_lots_30 : decode cX3_lots 30 = .ok (.iload_n 2, 1) := by decide +kernel
theorem dX3_lots_31 : decode cX3_lots 31 = .ok (.istore 5, 2) := by decide +kernel
theorem dX3_lots_33 : decode cX3_lots 33 = .ok (.iconst 0, 1) := by decide +kernel
theorem dX3_lots_34 : decode cX3_lots 34 = .ok (.istore 6, 2) := by decide +kernel
theorem dX3_lots_36 : decode cX3_lots 36 = .ok (.iconst 0, 1) := by decide +kernel
theorem dX3_lots_37 : decode cX3_lots 37 = .ok (.istore 7, 2) := by decide +kernel
theorem dX3_lots_39 : decode cX3_lots 39 = .ok (.iload 7, 2) := by decide +kernel
theorem dX3_lots_41 : decode cX3_lots 41 = .ok (.iload_n 1, 1) := by decide +kernel
theorem dX3_lots_42 : decode cX3_lots 42 = .ok (.if_icmp .ge 80, 3) := by decide +kernel
theorem dX3_lots_45 : decode cX3_lots 45 = .ok (.iload 5, 2) := by decide +kernel
theorem dX3_lots_47 : decode cX3_lots 47 = .ok (.invokestatic 225, 3) := by decide +kernel
theorem dX3_lots_50 : decode cX3_lots 50 = .ok (.istore 5, 2) := by decide +kernel
theorem dX3_lots_52 : decode cX3_lots 52 = .ok (.aload_n 0, 1) := by decide +kernel
theorem dX3_lots_53 : decode cX3_lots 53 = .ok (.getfield 16, 3) := by decide +kernel
theorem dX3_lots_56 : decode cX3_lots 56 = .ok (.aload_n 0, 1) := by decide +kernel
theorem dX3_lots_57 : decode cX3_lots 57 = .ok (.getfield 10, 3) := by decide +kernel
theorem dX3_lots_60 : decode cX3_lots 60 = .ok (.invokevirtual 151, 3) := by decide +kernel
theorem dX3_lots_63 : decode cX3_lots 63 = .ok (.aload_n 0, 1) := by decide +kernel
theorem dX3_lots_64 : decode cX3_lots 64 = .ok (.getfield 16, 3) := by decide +kernel
theorem dX3_lots_67 : decode cX3_lots 67 = .ok (.iconst 1, 1) := by decide +kernel
theorem dX3_lots_68 : decode cX3_lots 68 = .ok (.iload 5, 2) := by decide +kernel
theorem dX3_lots_70 : decode cX3_lots 70 = .ok (.bipush 9, 2) := by decide +kernel
theorem dX3_lots_72 : decode cX3_lots 72 = .ok (.invokestatic 228, 3) := by decide +kernel
theorem dX3_lots_75 : decode cX3_lots 75 = .ok (.iconst 1, 1) := by decide +kernel
theorem dX3_lots_76 : decode cX3_lots 76 = .ok (.iadd, 1) := by decide +kernel
theorem dX3_lots_77 : decode cX3_lots 77 = .ok (.invokevirtual 103, 3) := by decide +kernel
theorem dX3_lots_80 : decode cX3_lots 80 = .ok (.pop, 1) := by decide +kernel
theorem dX3_lots_81 : decode cX3_lots 81 = .ok (.aload_n 0, 1) := by decide +kernel
theorem dX3_lots_82 : decode cX3_lots 82 = .ok (.getfield 16, 3) := by decide +kernel
theorem dX3_lots_85 : decode cX3_lots 85 = .ok (.bipush 20, 2) := by decide +kernel
theorem dX3_lots_87 : decode cX3_lots 87 = .ok (.invokevirtual 155, 3) := by decide +kernel
theorem dX3_lots_90 : decode cX3_lots 90 = .ok (.iload 6, 2) := by decide +kernel
theorem dX3_lots_92 : decode cX3_lots 92 = .ok (.iload_n 3, 1) := by decide +kernel
theorem dX3_lots_93 : decode cX3_lots 93 = .ok (.ifCond .ne 13, 3) := by decide +kernel
theorem dX3_lots_96 : decode cX3_lots 96 = .ok (.aload_n 0, 1) := by decide +kernel
theorem dX3_lots_97 : decode cX3_lots 97 = .ok (.getfield 16, 3) := by decide +kernel
theorem dX3_lots_100 : decode cX3_lots 100 = .ok (.invokevirtual 125, 3) := by decide +kernel
theorem dX3_lots_103 : decode cX3_lots 103 = .ok (.goto 10, 3) := by decide +kernel
theorem dX3_lots_106 : decode cX3_lots 106 = .ok (.aload_n 0, 1) := by decide +kernel
theorem dX3_lots_107 : decode cX3_lots 107 = .ok (.getfield 16, 3) := by decide +kernel
theorem dX3_lots_110 : decode cX3_lots 110 = .ok (.invokevirtual 128, 3) := by decide +kernel
theorem dX3_lots_113 : decode cX3_lots 113 = .ok (.iadd, 1) := by decide +kernel
theorem dX3_lots_114 : decode cX3_lots 114 = .ok (.istore 6, 2) := by decide +kernel
theorem dX3_lots_116 : decode cX3_lots 116 = .ok (.iinc 7 1, 3) := by decide +kernel
theorem dX3_lots_119 : decode cX3_lots 119 = .ok (.goto (-80), 3) := by decide +kernel
theorem dX3_lots_122 : decode cX3_lots 122 = .ok (.iload 6, 2) := by decide +kernel
theorem dX3_lots_124 : decode cX3_lots 124 = .ok (.ireturn, 1) := by decide +kernel
theorem dX3_image_0 : decode cX3_image 0 = .ok (.aload_n 0, 1) := by decide +kernel
theorem dX3_image_1 : decode cX3_image 1 = .ok (.getfield 19, 3) := by decide +kernel
theorem dX3_image_4 : decode cX3_image 4 = .ok (.aload_n 0, 1) := by decide +kernel
theorem dX3_image_5 : decode cX3_image 5 = .ok (.getfield 10, 3) := by decide +kernel
theorem dX3_image_8 : decode cX3_image 8 = .ok (.invokevirtual 151, 3) := by decide +kernel
theorem dX3_image_11 : decode cX3_image 11 = .ok (.aload_n 0, 1) := by decide +kernel
theorem dX3_image_12 : decode cX3_image 12 = .ok (.iconst 1, 1) := by decide +kernel
theorem dX3_image_13 : decode cX3_image 13 = .ok (.putfield 22, 3) := by decide +kernel
theorem dX3_image_16 : decode cX3_image 16 = .ok (.aload_n 0, 1) := by decide +kernel
theorem dX3_image_17 : decode cX3_image 17 = .ok (.getfield 10, 3) := by decide +kernel
theorem dX3_image_20 : decode cX3_image 20 = .ok (.getfield 115, 3) := by decide +kernel
theorem dX3_image_23 : decode cX3_image 23 = .ok (.ireturn, 1) := by decide +kernel
theorem dX3_on_0 : decode cX3_on 0 = .ok (.aload_n 0, 1) := by decide +kernel
theorem dX3_on_1 : decode cX3_on 1 = .ok (.getfield 22, 3) := by decide +kernel
theorem dX3_on_4 : decode cX3_on 4 = .ok (.ifCond .ne 10, 3) := by decide +kernel
theorem dX3_on_7 : decode cX3_on 7 = .ok (.aload_n 0, 1) := by decide +kernel
theorem dX3_on_8 : decode cX3_on 8 = .ok (.bipush (-3), 2) := by decide +kernel
theorem dX3_on_10 : decode cX3_on 10 = .ok (.invokevirtual 56, 3) := by decide +kernel
theorem dX3_on_13 : decode cX3_on 13 = .ok (.ireturn, 1) := by decide +kernel
theorem dX3_on_14 : decode cX3_on 14 = .ok (.aload_n 0, 1) := by decide +kernel
theorem dX3_on_15 : decode cX3_on 15 = .ok (.getfield 10, 3) := by decide +kernel
theorem dX3_on_18 : decode cX3_on 18 = .ok (.aload_n 0, 1) := by decide +kernel
theorem dX3_on_19 : decode cX3_on 19 = .ok (.getfield 19, 3) := by decide +kernel
theorem dX3_on_22 : decode cX3_on 22 = .ok (.invokevirtual 151, 3) := by decide +kernel
theorem dX3_on_25 : decode cX3_on 25 = .ok (.aload_n 0, 1) := by decide +kernel
theorem dX3_on_26 : decode cX3_on 26 = .ok (.getfield 10, 3) := by decide +kernel
theorem dX3_on_29 : decode cX3_on 29 = .ok (.getfield 115, 3) := by decide +kernel
theorem dX3_on_32 : decode cX3_on 32 = .ok (.ireturn, 1) := by decide +kernel
theorem dX3_count_0 : decode cX3_count 0 = .ok (.iload_n 1, 1) := by decide +kernel
theorem dX3_count_1 : decode cX3_count 1 = .ok (.tableswitch 120 0 8 #[51, 59, 67, 75, 83, 91, 99, 107, 112], 51) := by decide +kernel
theorem dX3_count_52 : decode cX3_count 52 = .ok (.aload_n 0, 1) := by decide +kernel
theorem dX3_count_53 : decode cX3_count 53 = .ok (.getfield 10, 3) := by decide +kernel
theorem dX3_count_56 : decode cX3_count 56 = .ok (.getfield 161, 3) := by decide +kernel
theorem dX3_count_59 : decode cX3_count 59 = .ok (.ireturn, 1) := by decide +kernel
theorem dX3_count_60 : decode cX3_count 60 = .ok (.aload_n 0, 1) := by decide +kernel
theorem dX3_count_61 : decode cX3_count 61 = .ok (.getfield 10, 3) := by decide +kernel
theorem dX3_count_64 : decode cX3_count 64 = .ok (.getfield 115, 3) := by decide +kernel
theorem dX3_count_67 : decode cX3_count 67 = .ok (.ireturn, 1) := by decide +kernel
theorem dX3_count_68 : decode cX3_count 68 = .ok (.aload_n 0, 1) := by decide +kernel
theorem dX3_count_69 : decode cX3_count 69 = .ok (.getfield 10, 3) := by decide +kernel
theorem dX3_count_72 : decode cX3_count 72 = .ok (.getfield 231, 3) := by decide +kernel
theorem dX3_count_75 : decode cX3_count 75 = .ok (.ireturn, 1) := by decide +kernel
theorem dX3_count_76 : decode cX3_count 76 = .ok (.aload_n 0, 1) := by decide +kernel
theorem dX3_count_77 : decode cX3_count 77 = .ok (.getfield 10, 3) := by decide +kernel
theorem dX3_count_80 : decode cX3_count 80 = .ok (.getfield 234, 3) := by decide +kernel
theorem dX3_count_83 : decode cX3_count 83 = .ok (.ireturn, 1) := by decide +kernel
theorem dX3_count_84 : decode cX3_count 84 = .ok (.aload_n 0, 1) := by decide +kernel
theorem dX3_count_85 : decode cX3_count 85 = .ok (.getfield 10, 3) := by decide +kernel
theorem dX3_count_88 : decode cX3_count 88 = .ok (.getfield 237, 3) := by decide +kernel
theorem dX3_count_91 : decode cX3_count 91 = .ok (.ireturn, 1) := by decide +kernel
theorem dX3_count_92 : decode cX3_count 92 = .ok (.aload_n 0, 1) := by decide +kernel
theorem dX3_count_93 : decode cX3_count 93 = .ok (.getfield 10, 3) := by decide +kernel
theorem dX3_count_96 : decode cX3_count 96 = .ok (.invokevirtual 125, 3) := by decide +kernel
theorem dX3_count_99 : decode cX3_count 99 = .ok (.ireturn, 1) := by decide +kernel
theorem dX3_count_100 : decode cX3_count 100 = .ok (.aload_n 0, 1) := by decide +kernel
theorem dX3_count_101 : decode cX3_count 101 = .ok (.getfield 10, 3) := by decide +kernel
theorem dX3_count_104 : decode cX3_count 104 = .ok (.invokevirtual 128, 3) := by decide +kernel
theorem dX3_count_107 : decode cX3_count 107 = .ok (.ireturn, 1) := by decide +kernel
theorem dX3_count_108 : decode cX3_count 108 = .ok (.aload_n 0, 1) := by decide +kernel
theorem dX3_count_109 : decode cX3_count 109 = .ok (.getfield 37, 3) := by decide +kernel
theorem dX3_count_112 : decode cX3_count 112 = .ok (.ireturn, 1) := by decide +kernel
theorem dX3_count_113 : decode cX3_count 113 = .ok (.aload_n 0, 1) := by decide +kernel
theorem dX3_count_114 : decode cX3_count 114 = .ok (.getfield 29, 3) := by decide +kernel
theorem dX3_count_117 : decode cX3_count 117 = .ok (.getfield 240, 3) := by decide +kernel
theorem dX3_count_120 : decode cX3_count 120 = .ok (.ireturn, 1) := by decide +kernel
theorem dX3_count_121 : decode cX3_count 121 = .ok (.iload_n 1, 1) := by decide +kernel
theorem dX3_count_122 : decode cX3_count 122 = .ok (.bipush 11, 2) := by decide +kernel
theorem dX3_count_124 : decode cX3_count 124 = .ok (.if_icmp .lt 20, 3) := by decide +kernel
theorem dX3_count_127 : decode cX3_count 127 = .ok (.iload_n 1, 1) := by decide +kernel
theorem dX3_count_128 : decode cX3_count 128 = .ok (.bipush 16, 2) := by decide +kernel
theorem dX3_count_130 : decode cX3_count 130 = .ok (.if_icmp .gt 14, 3) := by decide +kernel
theorem dX3_count_133 : decode cX3_count 133 = .ok (.aload_n 0, 1) := by decide +kernel
theorem dX3_count_134 : decode cX3_count 134 = .ok (.iload_n 1, 1) := by decide +kernel
theorem dX3_count_135 : decode cX3_count 135 = .ok (.bipush 10, 2) := by decide +kernel
theorem dX3_count_137 : decode cX3_count 137 = .ok (.isub, 1) := by decide +kernel
theorem dX3_count_138 : decode cX3_count 138 = .ok (.invokevirtual 243, 3) := by decide +kernel
theorem dX3_count_141 : decode cX3_count 141 = .ok (.goto 5, 3) := by decide +kernel
theorem dX3_count_144 : decode cX3_count 144 = .ok (.bipush (-9), 2) := by decide +kernel
theorem dX3_count_146 : decode cX3_count 146 = .ok (.ireturn, 1) := by decide +kernel
theorem dX3_refuse_0 : decode cX3_refuse 0 = .ok (.iload_n 1, 1) := by decide +kernel
theorem dX3_refuse_1 : decode cX3_refuse 1 = .ok (.ineg, 1) := by decide +kernel
theorem dX3_refuse_2 : decode cX3_refuse 2 = .ok (.istore_n 2, 1) := by decide +kernel
theorem dX3_refuse_3 : decode cX3_refuse 3 = .ok (.iload_n 2, 1) := by decide +kernel
theorem dX3_refuse_4 : decode cX3_refuse 4 = .ok (.ifCond .lt 22, 3) := by decide +kernel
theorem dX3_refuse_7 : decode cX3_refuse 7 = .ok (.iload_n 2, 1) := by decide +kernel
theorem dX3_refuse_8 : decode cX3_refuse 8 = .ok (.aload_n 0, 1) := by decide +kernel
theorem dX3_refuse_9 : decode cX3_refuse 9 = .ok (.getfield 41, 3) := by decide +kernel
theorem dX3_refuse_12 : decode cX3_refuse 12 = .ok (.arraylength, 1) := by decide +kernel
theorem dX3_refuse_13 : decode cX3_refuse 13 = .ok (.if_icmp .ge 13, 3) := by decide +kernel
theorem dX3_refuse_16 : decode cX3_refuse 16 = .ok (.aload_n 0, 1) := by decide +kernel
theorem dX3_refuse_17 : decode cX3_refuse 17 = .ok (.getfield 41, 3) := by decide +kernel
theorem dX3_refuse_20 : decode cX3_refuse 20 = .ok (.iload_n 2, 1) := by decide +kernel
theorem dX3_refuse_21 : decode cX3_refuse 21 = .ok (.dup2, 1) := by decide +kernel
theorem dX3_refuse_22 : decode cX3_refuse 22 = .ok (.iaload, 1) := by decide +kernel
theorem dX3_refuse_23 : decode cX3_refuse 23 = .ok (.iconst 1, 1) := by decide +kernel
theorem dX3_refuse_24 : decode cX3_refuse 24 = .ok (.iadd, 1) := by decide +kernel
theorem dX3_refuse_25 : decode cX3_refuse 25 = .ok (.iastore, 1) := by decide +kernel
theorem dX3_refuse_26 : decode cX3_refuse 26 = .ok (.iload_n 1, 1) := by decide +kernel
theorem dX3_refuse_27 : decode cX3_refuse 27 = .ok (.ireturn, 1) := by decide +kernel
theorem dX3_refuseLong_0 : decode cX3_refuseLong 0 = .ok (.ldc2_w 246, 3) := by decide +kernel
theorem dX3_refuseLong_3 : decode cX3_refuseLong 3 = .ok (.aload_n 0, 1) := by decide +kernel
theorem dX3_refuseLong_4 : decode cX3_refuseLong 4 = .ok (.iload_n 1, 1) := by decide +kernel
theorem dX3_refuseLong_5 : decode cX3_refuseLong 5 = .ok (.invokevirtual 56, 3) := by decide +kernel
theorem dX3_refuseLong_8 : decode cX3_refuseLong 8 = .ok (.i2l, 1) := by decide +kernel
theorem dX3_refuseLong_9 : decode cX3_refuseLong 9 = .ok (.lsub, 1) := by decide +kernel
theorem dX3_refuseLong_10 : decode cX3_refuseLong 10 = .ok (.lreturn, 1) := by decide +kernel
theorem dX3_refused_0 : decode cX3_refused 0 = .ok (.iload_n 1, 1) := by decide +kernel
theorem dX3_refused_1 : decode cX3_refused 1 = .ok (.ifCond .lt 21, 3) := by decide +kernel
theorem dX3_refused_4 : decode cX3_refused 4 = .ok (.iload_n 1, 1) := by decide +kernel
theorem dX3_refused_5 : decode cX3_refused 5 = .ok (.aload_n 0, 1) := by decide +kernel
theorem dX3_refused_6 : decode cX3_refused 6 = .ok (.getfield 41, 3) := by decide +kernel
theorem dX3_refused_9 : decode cX3_refused 9 = .ok (.arraylength, 1) := by decide +kernel
theorem dX3_refused_10 : decode cX3_refused 10 = .ok (.if_icmp .ge 12, 3) := by decide +kernel
theorem dX3_refused_13 : decode cX3_refused 13 = .ok (.aload_n 0, 1) := by decide +kernel
theorem dX3_refused_14 : decode cX3_refused 14 = .ok (.getfield 41, 3) := by decide +kernel
theorem dX3_refused_17 : decode cX3_refused 17 = .ok (.iload_n 1, 1) := by decide +kernel
theorem dX3_refused_18 : decode cX3_refused 18 = .ok (.iaload, 1) := by decide +kernel
theorem dX3_refused_19 : decode cX3_refused 19 = .ok (.goto 4, 3) := by decide +kernel
theorem dX3_refused_22 : decode cX3_refused 22 = .ok (.iconst 0, 1) := by decide +kernel
theorem dX3_refused_23 : decode cX3_refused 23 = .ok (.ireturn, 1) := by decide +kernel
theorem dX3_firstOf_0 : decode cX3_firstOf 0 = .ok (.iload_n 0, 1) := by decide +kernel
theorem dX3_firstOf_1 : decode cX3_firstOf 1 = .ok (.ifCond .eq 7, 3) := by decide +kernel
theorem dX3_firstOf_4 : decode cX3_firstOf 4 = .ok (.iload_n 0, 1) := by decide +kernel
theorem dX3_firstOf_5 : decode cX3_firstOf 5 = .ok (.goto 12, 3) := by decide +kernel
theorem dX3_firstOf_8 : decode cX3_firstOf 8 = .ok (.iload_n 1, 1) := by decide +kernel
theorem dX3_firstOf_9 : decode cX3_firstOf 9 = .ok (.ifCond .eq 7, 3) := by decide +kernel
theorem dX3_firstOf_12 : decode cX3_firstOf 12 = .ok (.iload_n 1, 1) := by decide +kernel
theorem dX3_firstOf_13 : decode cX3_firstOf 13 = .ok (.goto 4, 3) := by decide +kernel
theorem dX3_firstOf_16 : decode cX3_firstOf 16 = .ok (.iload_n 2, 1) := by decide +kernel
theorem dX3_firstOf_17 : decode cX3_firstOf 17 = .ok (.ireturn, 1) := by decide +kernel
theorem dX3_rangeFault_0 : decode cX3_rangeFault 0 = .ok (.iload_n 0, 1) := by decide +kernel
theorem dX3_rangeFault_1 : decode cX3_rangeFault 1 = .ok (.iload_n 1, 1) := by decide +kernel
theorem dX3_rangeFault_2 : decode cX3_rangeFault 2 = .ok (.if_icmp .ge 8, 3) := by decide +kernel
theorem dX3_rangeFault_5 : decode cX3_rangeFault 5 = .ok (.bipush (-4), 2) := by decide +kernel
theorem dX3_rangeFault_7 : decode cX3_rangeFault 7 = .ok (.goto 14, 3) := by decide +kernel
theorem dX3_rangeFault_10 : decode cX3_rangeFault 10 = .ok (.iload_n 0, 1) := by decide +kernel
theorem dX3_rangeFault_11 : decode cX3_rangeFault 11 = .ok (.iload_n 2, 1) := by decide +kernel
theorem dX3_rangeFault_12 : decode cX3_rangeFault 12 = .ok (.if_icmp .le 8, 3) := by decide +kernel
theorem dX3_rangeFault_15 : decode cX3_rangeFault 15 = .ok (.bipush (-6), 2) := by decide +kernel
theorem dX3_rangeFault_17 : decode cX3_rangeFault 17 = .ok (.goto 4, 3) := by decide +kernel
theorem dX3_rangeFault_20 : decode cX3_rangeFault 20 = .ok (.iconst 0, 1) := by decide +kernel
theorem dX3_rangeFault_21 : decode cX3_rangeFault 21 = .ok (.ireturn, 1) := by decide +kernel
theorem dX3_whatFault_0 : decode cX3_whatFault 0 = .ok (.iload_n 0, 1) := by decide +kernel
theorem dX3_whatFault_1 : decode cX3_whatFault 1 = .ok (.ifCond .lt 8, 3) := by decide +kernel
theorem dX3_whatFault_4 : decode cX3_whatFault 4 = .ok (.iload_n 0, 1) := by decide +kernel
theorem dX3_whatFault_5 : decode cX3_whatFault 5 = .ok (.iload_n 1, 1) := by decide +kernel
theorem dX3_whatFault_6 : decode cX3_whatFault 6 = .ok (.if_icmp .le 8, 3) := by decide +kernel
theorem dX3_whatFault_9 : decode cX3_whatFault 9 = .ok (.bipush (-2), 2) := by decide +kernel
theorem dX3_whatFault_11 : decode cX3_whatFault 11 = .ok (.goto 4, 3) := by decide +kernel
theorem dX3_whatFault_14 : decode cX3_whatFault 14 = .ok (.iconst 0, 1) := by decide +kernel
theorem dX3_whatFault_15 : decode cX3_whatFault 15 = .ok (.ireturn, 1) := by decide +kernel
theorem dX3_yearsFault_0 : decode cX3_yearsFault 0 = .ok (.iload_n 0, 1) := by decide +kernel
theorem dX3_yearsFault_1 : decode cX3_yearsFault 1 = .ok (.iconst 0, 1) := by decide +kernel
theorem dX3_yearsFault_2 : decode cX3_yearsFault 2 = .ok (.sipush 200, 3) := by decide +kernel
theorem dX3_yearsFault_5 : decode cX3_yearsFault 5 = .ok (.invokestatic 44, 3) := by decide +kernel
theorem dX3_yearsFault_8 : decode cX3_yearsFault 8 = .ok (.ireturn, 1) := by decide +kernel
theorem dX3_caskOrAllFault_0 : decode cX3_caskOrAllFault 0 = .ok (.iload_n 1, 1) := by decide +kernel
theorem dX3_caskOrAllFault_1 : decode cX3_caskOrAllFault 1 = .ok (.iconst (-1), 1) := by decide +kernel
theorem dX3_caskOrAllFault_2 : decode cX3_caskOrAllFault 2 = .ok (.if_icmp .ne 7, 3) := by decide +kernel
theorem dX3_caskOrAllFault_5 : decode cX3_caskOrAllFault 5 = .ok (.iconst 0, 1) := by decide +kernel
theorem dX3_caskOrAllFault_6 : decode cX3_caskOrAllFault 6 = .ok (.goto 11, 3) := by decide +kernel
theorem dX3_caskOrAllFault_9 : decode cX3_caskOrAllFault 9 = .ok (.aload_n 0, 1) := by decide +kernel
theorem dX3_caskOrAllFault_10 : decode cX3_caskOrAllFault 10 = .ok (.getfield 10, 3) := by decide +kernel
theorem dX3_caskOrAllFault_13 : decode cX3_caskOrAllFault 13 = .ok (.iload_n 1, 1) := by decide +kernel
theorem dX3_caskOrAllFault_14 : decode cX3_caskOrAllFault 14 = .ok (.invokevirtual 66, 3) := by decide +kernel
theorem dX3_caskOrAllFault_17 : decode cX3_caskOrAllFault 17 = .ok (.ireturn, 1) := by decide +kernel
theorem dX3_chanceFault_0 : decode cX3_chanceFault 0 = .ok (.iload_n 0, 1) := by decide +kernel
theorem dX3_chanceFault_1 : decode cX3_chanceFault 1 = .ok (.ifCond .lt 12, 3) := by decide +kernel
theorem dX3_chanceFault_4 : decode cX3_chanceFault 4 = .ok (.iload_n 1, 1) := by decide +kernel
theorem dX3_chanceFault_5 : decode cX3_chanceFault 5 = .ok (.ifCond .lt 8, 3) := by decide +kernel
theorem dX3_chanceFault_8 : decode cX3_chanceFault 8 = .ok (.iload_n 2, 1) := by decide +kernel
theorem dX3_chanceFault_9 : decode cX3_chanceFault 9 = .ok (.iconst 2, 1) := by decide +kernel
theorem dX3_chanceFault_10 : decode cX3_chanceFault 10 = .ok (.if_icmp .ge 6, 3) := by decide +kernel
theorem dX3_chanceFault_13 : decode cX3_chanceFault 13 = .ok (.bipush (-4), 2) := by decide +kernel
theorem dX3_chanceFault_15 : decode cX3_chanceFault 15 = .ok (.ireturn, 1) := by decide +kernel
theorem dX3_chanceFault_16 : decode cX3_chanceFault 16 = .ok (.iload_n 0, 1) := by decide +kernel
theorem dX3_chanceFault_17 : decode cX3_chanceFault 17 = .ok (.sipush 400, 3) := by decide +kernel
theorem dX3_chanceFault_20 : decode cX3_chanceFault 20 = .ok (.if_icmp .gt 15, 3) := by decide +kernel
theorem dX3_chanceFault_23 : decode cX3_chanceFault 23 = .ok (.iload_n 1, 1) := by decide +kernel
theorem dX3_chanceFault_24 : decode cX3_chanceFault 24 = .ok (.bipush 8, 2) := by decide +kernel
theorem dX3_chanceFault_26 : decode cX3_chanceFault 26 = .ok (.if_icmp .gt 9, 3) := by decide +kernel
theorem dX3_chanceFault_29 : decode cX3_chanceFault 29 = .ok (.iload_n 2, 1) := by decide +kernel
theorem dX3_chanceFault_30 : decode cX3_chanceFault 30 = .ok (.bipush 20, 2) := by decide +kernel
theorem dX3_chanceFault_32 : decode cX3_chanceFault 32 = .ok (.if_icmp .le 8, 3) := by decide +kernel
theorem dX3_chanceFault_35 : decode cX3_chanceFault 35 = .ok (.bipush (-6), 2) := by decide +kernel
theorem dX3_chanceFault_37 : decode cX3_chanceFault 37 = .ok (.goto 4, 3) := by decide +kernel
theorem dX3_chanceFault_40 : decode cX3_chanceFault 40 = .ok (.iconst 0, 1) := by decide +kernel
theorem dX3_chanceFault_41 : decode cX3_chanceFault 41 = .ok (.ireturn, 1) := by decide +kernel
theorem dX3_leastChoice_0 : decode cX3_leastChoice 0 = .ok (.iload_n 0, 1) := by decide +kernel
theorem dX3_leastChoice_1 : decode cX3_leastChoice 1 = .ok (.iconst 1, 1) := by decide +kernel
theorem dX3_leastChoice_2 : decode cX3_leastChoice 2 = .ok (.if_icmp .ne 7, 3) := by decide +kernel
theorem dX3_leastChoice_5 : decode cX3_leastChoice 5 = .ok (.iconst 1, 1) := by decide +kernel
theorem dX3_leastChoice_6 : decode cX3_leastChoice 6 = .ok (.goto 4, 3) := by decide +kernel
theorem dX3_leastChoice_9 : decode cX3_leastChoice 9 = .ok (.iconst 0, 1) := by decide +kernel
theorem dX3_leastChoice_10 : decode cX3_leastChoice 10 = .ok (.ireturn, 1) := by decide +kernel
theorem dX3_mostChoice_0 : decode cX3_mostChoice 0 = .ok (.iload_n 0, 1) := by decide +kernel
theorem dX3_mostChoice_1 : decode cX3_mostChoice 1 = .ok (.ifCond .ne 8, 3) := by decide +kernel
theorem dX3_mostChoice_4 : decode cX3_mostChoice 4 = .ok (.bipush 40, 2) := by decide +kernel
theorem dX3_mostChoice_6 : decode cX3_mostChoice 6 = .ok (.goto 5, 3) := by decide +kernel
theorem dX3_mostChoice_9 : decode cX3_mostChoice 9 = .ok (.bipush 9, 2) := by decide +kernel
theorem dX3_mostChoice_11 : decode cX3_mostChoice 11 = .ok (.ireturn, 1) := by decide +kernel
theorem dX3_readLetters_0 : decode cX3_readLetters 0 = .ok (.aload_n 0, 1) := by decide +kernel
theorem dX3_readLetters_1 : decode cX3_readLetters 1 = .ok (.getfield 29, 3) := by decide +kernel
theorem dX3_readLetters_4 : decode cX3_readLetters 4 = .ok (.invokevirtual 248, 3) := by decide +kernel
theorem dX3_readLetters_7 : decode cX3_readLetters 7 = .ok (.istore_n 1, 1) := by decide +kernel
theorem dX3_readLetters_8 : decode cX3_readLetters 8 = .ok (.iload_n 1, 1) := by decide +kernel
theorem dX3_readLetters_9 : decode cX3_readLetters 9 = .ok (.ifCond .lt 9, 3) := by decide +kernel
theorem dX3_readLetters_12 : decode cX3_readLetters 12 = .ok (.sipush (-1000), 3) := by decide +kernel
theorem dX3_readLetters_15 : decode cX3_readLetters 15 = .ok (.iload_n 1, 1) := by decide +kernel
theorem dX3_readLetters_16 : decode cX3_readLetters 16 = .ok (.isub, 1) := by decide +kernel
theorem dX3_readLetters_17 : decode cX3_readLetters 17 = .ok (.ireturn, 1) := by decide +kernel
theorem dX3_readLetters_18 : decode cX3_readLetters 18 = .ok (.aload_n 0, 1) := by decide +kernel
theorem dX3_readLetters_19 : decode cX3_readLetters 19 = .ok (.getfield 16, 3) := by decide +kernel
theorem dX3_readLetters_22 : decode cX3_readLetters 22 = .ok (.aload_n 0, 1) := by decide +kernel
theorem dX3_readLetters_23 : decode cX3_readLetters 23 = .ok (.getfield 10, 3) := by decide +kernel
theorem dX3_readLetters_26 : decode cX3_readLetters 26 = .ok (.invokevirtual 151, 3) := by decide +kernel
theorem dX3_readLetters_29 : decode cX3_readLetters 29 = .ok (.iconst 0, 1) := by decide +kernel
theorem dX3_readLetters_30 : decode cX3_readLetters 30 = .ok (.istore_n 2, 1) := by decide +kernel
theorem dX3_readLetters_31 : decode cX3_readLetters 31 = .ok (.iconst 0, 1) := by decide +kernel
theorem dX3_readLetters_32 : decode cX3_readLetters 32 = .ok (.istore_n 3, 1) := by decide +kernel
theorem dX3_readLetters_33 : decode cX3_readLetters 33 = .ok (.iconst 0, 1) := by decide +kernel
theorem dX3_readLetters_34 : decode cX3_readLetters 34 = .ok (.istore 4, 2) := by decide +kernel
theorem dX3_readLetters_36 : decode cX3_readLetters 36 = .ok (.iload 4, 2) := by decide +kernel
theorem dX3_readLetters_38 : decode cX3_readLetters 38 = .ok (.aload_n 0, 1) := by decide +kernel
theorem dX3_readLetters_39 : decode cX3_readLetters 39 = .ok (.getfield 29, 3) := by decide +kernel
theorem dX3_readLetters_42 : decode cX3_readLetters 42 = .ok (.getfield 240, 3) := by decide +kernel
theorem dX3_readLetters_45 : decode cX3_readLetters 45 = .ok (.if_icmp .ge 45, 3) := by decide +kernel
theorem dX3_readLetters_48 : decode cX3_readLetters 48 = .ok (.aload_n 0, 1) := by decide +kernel
theorem dX3_readLetters_49 : decode cX3_readLetters 49 = .ok (.getfield 29, 3) := by decide +kernel
theorem dX3_readLetters_52 : decode cX3_readLetters 52 = .ok (.iload 4, 2) := by decide +kernel
theorem dX3_readLetters_54 : decode cX3_readLetters 54 = .ok (.invokevirtual 251, 3) := by decide +kernel
theorem dX3_readLetters_57 : decode cX3_readLetters 57 = .ok (.bipush 59, 2) := by decide +kernel
theorem dX3_readLetters_59 : decode cX3_readLetters 59 = .ok (.if_icmp .ne 25, 3) := by decide +kernel
theorem dX3_readLetters_62 : decode cX3_readLetters 62 = .ok (.aload_n 0, 1) := by decide +kernel
theorem dX3_readLetters_63 : decode cX3_readLetters 63 = .ok (.iload_n 3, 1) := by decide +kernel
theorem dX3_readLetters_64 : decode cX3_readLetters 64 = .ok (.invokevirtual 253, 3) := by decide +kernel
theorem dX3_readLetters_67 : decode cX3_readLetters 67 = .ok (.ifCond .eq 9, 3) := by decide +kernel
theorem dX3_readLetters_70 : decode cX3_readLetters 70 = .ok (.sipush (-2000), 3) := by decide +kernel
theorem dX3_readLetters_73 : decode cX3_readLetters 73 = .ok (.iload_n 3, 1) := by decide +kernel
theorem dX3_readLetters_74 : decode cX3_readLetters 74 = .ok (.isub, 1) := by decide +kernel
theorem dX3_readLetters_75 : decode cX3_readLetters 75 = .ok (.ireturn, 1) := by decide +kernel
theorem dX3_readLetters_76 : decode cX3_readLetters 76 = .ok (.iinc 2 1, 3) := by decide +kernel
theorem dX3_readLetters_79 : decode cX3_readLetters 79 = .ok (.iload 4, 2) := by decide +kernel
theorem dX3_readLetters_81 : decode cX3_readLetters 81 = .ok (.iconst 1, 1) := by decide +kernel
theorem dX3_readLetters_82 : decode cX3_readLetters 82 = .ok (.iadd, 1) := by decide +kernel
theorem dX3_readLetters_83 : decode cX3_readLetters 83 = .ok (.istore_n 3, 1) := by decide +kernel
theorem dX3_readLetters_84 : decode cX3_readLetters 84 = .ok (.iinc 4 1, 3) := by decide +kernel
theorem dX3_readLetters_87 : decode cX3_readLetters 87 = .ok (.goto (-51), 3) := by decide +kernel
theorem dX3_readLetters_90 : decode cX3_readLetters 90 = .ok (.aload_n 0, 1) := by decide +kernel
theorem dX3_readLetters_91 : decode cX3_readLetters 91 = .ok (.getfield 10, 3) := by decide +kernel
theorem dX3_readLetters_94 : decode cX3_readLetters 94 = .ok (.aload_n 0, 1) := by decide +kernel
theorem dX3_readLetters_95 : decode cX3_readLetters 95 = .ok (.getfield 16, 3) := by decide +kernel
theorem dX3_readLetters_98 : decode cX3_readLetters 98 = .ok (.invokevirtual 151, 3) := by decide +kernel
theorem dX3_readLetters_101 : decode cX3_readLetters 101 = .ok (.iload_n 2, 1) := by decide +kernel
theorem dX3_readLetters_102 : decode cX3_readLetters 102 = .ok (.ireturn, 1) := by decide +kernel
theorem dX3_statementFault_0 : decode cX3_statementFault 0 = .ok (.iload_n 1, 1) := by decide +kernel
theorem dX3_statementFault_1 : decode cX3_statementFault 1 = .ok (.iconst 1, 1) := by decide +kernel
theorem dX3_statementFault_2 : decode cX3_statementFault 2 = .ok (.iadd, 1) := by decide +kernel
theorem dX3_statementFault_3 : decode cX3_statementFault 3 = .ok (.istore_n 2, 1) := by decide +kernel
theorem dX3_statementFault_4 : decode cX3_statementFault 4 = .ok (.aload_n 0, 1) := by decide +kernel
theorem dX3_statementFault_5 : decode cX3_statementFault 5 = .ok (.getfield 29, 3) := by decide +kernel
theorem dX3_statementFault_8 : decode cX3_statementFault 8 = .ok (.iload_n 1, 1) := by decide +kernel
theorem dX3_statementFault_9 : decode cX3_statementFault 9 = .ok (.invokevirtual 251, 3) := by decide +kernel
theorem dX3_statementFault_12 : decode cX3_statementFault 12 = .ok (.lookupswitch 118 #[(99, 52), (101, 94), (108, 76), (112, 112), (114, 58)], 52) := by decide +kernel
theorem dX3_statementFault_64 : decode cX3_statementFault 64 = .ok (.aload_n 0, 1) := by decide +kernel
theorem dX3_statementFault_65 : decode cX3_statementFault 65 = .ok (.iload_n 1, 1) := by decide +kernel
theorem dX3_statementFault_66 : decode cX3_statementFault 66 = .ok (.invokevirtual 256, 3) := by decide +kernel
theorem dX3_statementFault_69 : decode cX3_statementFault 69 = .ok (.ireturn, 1) := by decide +kernel
theorem dX3_statementFault_70 : decode cX3_statementFault 70 = .ok (.aload_n 0, 1) := by decide +kernel
theorem dX3_statementFault_71 : decode cX3_statementFault 71 = .ok (.getfield 16, 3) := by decide +kernel
theorem dX3_statementFault_74 : decode cX3_statementFault 74 = .ok (.iconst 0, 1) := by decide +kernel
theorem dX3_statementFault_75 : decode cX3_statementFault 75 = .ok (.aload_n 0, 1) := by decide +kernel
theorem dX3_statementFault_76 : decode cX3_statementFault 76 = .ok (.getfield 29, 3) := by decide +kernel
theorem dX3_statementFault_79 : decode cX3_statementFault 79 = .ok (.iload_n 2, 1) := by decide +kernel
theorem dX3_statementFault_80 : decode cX3_statementFault 80 = .ok (.iconst 2, 1) := by decide +kernel
theorem dX3_statementFault_81 : decode cX3_statementFault 81 = .ok (.invokevirtual 259, 3) := by decide +kernel
theorem dX3_statementFault_84 : decode cX3_statementFault 84 = .ok (.invokevirtual 103, 3) := by decide +kernel
theorem dX3_statementFault_87 : decode cX3_statementFault 87 = .ok (.ireturn, 1) := by decide +kernel
theorem dX3_statementFault_88 : decode cX3_statementFault 88 = .ok (.aload_n 0, 1) := by decide +kernel
theorem dX3_statementFault_89 : decode cX3_statementFault 89 = .ok (.getfield 16, 3) := by decide +kernel
theorem dX3_statementFault_92 : decode cX3_statementFault 92 = .ok (.iconst 1, 1) := by decide +kernel
theorem dX3_statementFault_93 : decode cX3_statementFault 93 = .ok (.aload_n 0, 1) := by decide +kernel
theorem dX3_statementFault_94 : decode cX3_statementFault 94 = .ok (.getfield 29, 3) := by decide +kernel
theorem dX3_statementFault_97 : decode cX3_statementFault 97 = .ok (.iload_n 2, 1) := by decide +kernel
theorem dX3_statementFault_98 : decode cX3_statementFault 98 = .ok (.iconst 1, 1) := by decide +kernel
theorem dX3_statementFault_99 : decode cX3_statementFault 99 = .ok (.invokevirtual 259, 3) := by decide +kernel
theorem dX3_statementFault_102 : decode cX3_statementFault 102 = .ok (.invokevirtual 103, 3) := by decide +kernel
theorem dX3_statementFault_105 : decode cX3_statementFault 105 = .ok (.ireturn, 1) := by decide +kernel
theorem dX3_statementFault_106 : decode cX3_statementFault 106 = .ok (.aload_n 0, 1) := by decide +kernel
theorem dX3_statementFault_107 : decode cX3_statementFault 107 = .ok (.getfield 16, 3) := by decide +kernel
theorem dX3_statementFault_110 : decode cX3_statementFault 110 = .ok (.iconst 2, 1) := by decide +kernel
theorem dX3_statementFault_111 : decode cX3_statementFault 111 = .ok (.aload_n 0, 1) := by decide +kernel
theorem dX3_statementFault_112 : decode cX3_statementFault 112 = .ok (.getfield 29, 3) := by decide +kernel
theorem dX3_statementFault_115 : decode cX3_statementFault 115 = .ok (.iload_n 2, 1) := by decide +kernel
theorem dX3_statementFault_116 : decode cX3_statementFault 116 = .ok (.iconst 1, 1) := by decide +kernel
theorem dX3_statementFault_117 : decode cX3_statementFault 117 = .ok (.invokevirtual 259, 3) := by decide +kernel
theorem dX3_statementFault_120 : decode cX3_statementFault 120 = .ok (.invokevirtual 103, 3) := by decide +kernel
theorem dX3_statementFault_123 : decode cX3_statementFault 123 = .ok (.ireturn, 1) := by decide +kernel
theorem dX3_statementFault_124 : decode cX3_statementFault 124 = .ok (.aload_n 0, 1) := by decide +kernel
theorem dX3_statementFault_125 : decode cX3_statementFault 125 = .ok (.iload_n 1, 1) := by decide +kernel
theorem dX3_statementFault_126 : decode cX3_statementFault 126 = .ok (.invokevirtual 262, 3) := by decide +kernel
theorem dX3_statementFault_129 : decode cX3_statementFault 129 = .ok (.ireturn, 1) := by decide +kernel
theorem dX3_statementFault_130 : decode cX3_statementFault 130 = .ok (.aload_n 0, 1) := by decide +kernel
theorem dX3_statementFault_131 : decode cX3_statementFault 131 = .ok (.getfield 16, 3) := by decide +kernel
theorem dX3_statementFault_134 : decode cX3_statementFault 134 = .ok (.aload_n 0, 1) := by decide +kernel
theorem dX3_statementFault_135 : decode cX3_statementFault 135 = .ok (.getfield 29, 3) := by decide +kernel
theorem dX3_statementFault_138 : decode cX3_statementFault 138 = .ok (.iload_n 2, 1) := by decide +kernel
theorem dX3_statementFault_139 : decode cX3_statementFault 139 = .ok (.iconst 2, 1) := by decide +kernel
theorem dX3_statementFault_140 : decode cX3_statementFault 140 = .ok (.invokevirtual 259, 3) := by decide +kernel
theorem dX3_statementFault_143 : decode cX3_statementFault 143 = .ok (.invokevirtual 112, 3) := by decide +kernel
theorem dX3_statementFault_146 : decode cX3_statementFault 146 = .ok (.ireturn, 1) := by decide +kernel
theorem dX3_caskComes_0 : decode cX3_caskComes 0 = .ok (.aload_n 0, 1) := by decide +kernel
theorem dX3_caskComes_1 : decode cX3_caskComes 1 = .ok (.getfield 16, 3) := by decide +kernel
theorem dX3_caskComes_4 : decode cX3_caskComes 4 = .ok (.aload_n 0, 1) := by decide +kernel
theorem dX3_caskComes_5 : decode cX3_caskComes 5 = .ok (.getfield 29, 3) := by decide +kernel
theorem dX3_caskComes_8 : decode cX3_caskComes 8 = .ok (.iload_n 1, 1) := by decide +kernel
theorem dX3_caskComes_9 : decode cX3_caskComes 9 = .ok (.iconst 1, 1) := by decide +kernel
theorem dX3_caskComes_10 : decode cX3_caskComes 10 = .ok (.iadd, 1) := by decide +kernel
theorem dX3_caskComes_11 : decode cX3_caskComes 11 = .ok (.invokevirtual 265, 3) := by decide +kernel
theorem dX3_caskComes_14 : decode cX3_caskComes 14 = .ok (.aload_n 0, 1) := by decide +kernel
theorem dX3_caskComes_15 : decode cX3_caskComes 15 = .ok (.getfield 29, 3) := by decide +kernel
theorem dX3_caskComes_18 : decode cX3_caskComes 18 = .ok (.iload_n 1, 1) := by decide +kernel
theorem dX3_caskComes_19 : decode cX3_caskComes 19 = .ok (.iconst 2, 1) := by decide +kernel
theorem dX3_caskComes_20 : decode cX3_caskComes 20 = .ok (.iadd, 1) := by decide +kernel
theorem dX3_caskComes_21 : decode cX3_caskComes 21 = .ok (.iconst 3, 1) := by decide +kernel
theorem dX3_caskComes_22 : decode cX3_caskComes 22 = .ok (.invokevirtual 259, 3) := by decide +kernel
theorem dX3_caskComes_25 : decode cX3_caskComes 25 = .ok (.aload_n 0, 1) := by decide +kernel
theorem dX3_caskComes_26 : decode cX3_caskComes 26 = .ok (.getfield 29, 3) := by decide +kernel
theorem dX3_caskComes_29 : decode cX3_caskComes 29 = .ok (.iload_n 1, 1) := by decide +kernel
theorem dX3_caskComes_30 : decode cX3_caskComes 30 = .ok (.iconst 5, 1) := by decide +kernel
theorem dX3_caskComes_31 : decode cX3_caskComes 31 = .ok (.iadd, 1) := by decide +kernel
theorem dX3_caskComes_32 : decode cX3_caskComes 32 = .ok (.iconst 3, 1) := by decide +kernel
theorem dX3_caskComes_33 : decode cX3_caskComes 33 = .ok (.invokevirtual 259, 3) := by decide +kernel
theorem dX3_caskComes_36 : decode cX3_caskComes 36 = .ok (.aload_n 0, 1) := by decide +kernel
theorem dX3_caskComes_37 : decode cX3_caskComes 37 = .ok (.getfield 29, 3) := by decide +kernel
theorem dX3_caskComes_40 : decode cX3_caskComes 40 = .ok (.iload_n 1, 1) := by decide +kernel
theorem dX3_caskComes_41 : decode cX3_caskComes 41 = .ok (.bipush 8, 2) := by decide +kernel
theorem dX3_caskComes_43 : decode cX3_caskComes 43 = .ok (.iadd, 1) := by decide +kernel
theorem dX3_caskComes_44 : decode cX3_caskComes 44 = .ok (.iconst 2, 1) := by decide +kernel
theorem dX3_caskComes_45 : decode cX3_caskComes 45 = .ok (.invokevirtual 259, 3) := by decide +kernel
theorem dX3_caskComes_48 : decode cX3_caskComes 48 = .ok (.aload_n 0, 1) := by decide +kernel
theorem dX3_caskComes_49 : decode cX3_caskComes 49 = .ok (.getfield 29, 3) := by decide +kernel
theorem dX3_caskComes_52 : decode cX3_caskComes 52 = .ok (.iload_n 1, 1) := by decide +kernel
theorem dX3_caskComes_53 : decode cX3_caskComes 53 = .ok (.bipush 10, 2) := by decide +kernel
theorem dX3_caskComes_55 : decode cX3_caskComes 55 = .ok (.iadd, 1) := by decide +kernel
theorem dX3_caskComes_56 : decode cX3_caskComes 56 = .ok (.iconst 1, 1) := by decide +kernel
theorem dX3_caskComes_57 : decode cX3_caskComes 57 = .ok (.invokevirtual 259, 3) := by decide +kernel
theorem dX3_caskComes_60 : decode cX3_caskComes 60 = .ok (.invokevirtual 267, 3) := by decide +kernel
theorem dX3_caskComes_63 : decode cX3_caskComes 63 = .ok (.ireturn, 1) := by decide +kernel
theorem dX3_pourComes_0 : decode cX3_pourComes 0 = .ok (.aload_n 0, 1) := by decide +kernel
theorem dX3_pourComes_1 : decode cX3_pourComes 1 = .ok (.getfield 16, 3) := by decide +kernel
theorem dX3_pourComes_4 : decode cX3_pourComes 4 = .ok (.aload_n 0, 1) := by decide +kernel
theorem dX3_pourComes_5 : decode cX3_pourComes 5 = .ok (.getfield 29, 3) := by decide +kernel
theorem dX3_pourComes_8 : decode cX3_pourComes 8 = .ok (.iload_n 1, 1) := by decide +kernel
theorem dX3_pourComes_9 : decode cX3_pourComes 9 = .ok (.iconst 1, 1) := by decide +kernel
theorem dX3_pourComes_10 : decode cX3_pourComes 10 = .ok (.iadd, 1) := by decide +kernel
theorem dX3_pourComes_11 : decode cX3_pourComes 11 = .ok (.iconst 1, 1) := by decide +kernel
theorem dX3_pourComes_12 : decode cX3_pourComes 12 = .ok (.invokevirtual 259, 3) := by decide +kernel
theorem dX3_pourComes_15 : decode cX3_pourComes 15 = .ok (.aload_n 0, 1) := by decide +kernel
theorem dX3_pourComes_16 : decode cX3_pourComes 16 = .ok (.getfield 29, 3) := by decide +kernel
theorem dX3_pourComes_19 : decode cX3_pourComes 19 = .ok (.iload_n 1, 1) := by decide +kernel
theorem dX3_pourComes_20 : decode cX3_pourComes 20 = .ok (.iconst 2, 1) := by decide +kernel
theorem dX3_pourComes_21 : decode cX3_pourComes 21 = .ok (.iadd, 1) := by decide +kernel
theorem dX3_pourComes_22 : decode cX3_pourComes 22 = .ok (.iconst 1, 1) := by decide +kernel
theorem dX3_pourComes_23 : decode cX3_pourComes 23 = .ok (.invokevirtual 259, 3) := by decide +kernel
theorem dX3_pourComes_26 : decode cX3_pourComes 26 = .ok (.aload_n 0, 1) := by decide +kernel
theorem dX3_pourComes_27 : decode cX3_pourComes 27 = .ok (.getfield 29, 3) := by decide +kernel
theorem dX3_pourComes_30 : decode cX3_pourComes 30 = .ok (.iload_n 1, 1) := by decide +kernel
theorem dX3_pourComes_31 : decode cX3_pourComes 31 = .ok (.iconst 3, 1) := by decide +kernel
theorem dX3_pourComes_32 : decode cX3_pourComes 32 = .ok (.iadd, 1) := by decide +kernel
theorem dX3_pourComes_33 : decode cX3_pourComes 33 = .ok (.iconst 3, 1) := by decide +kernel
theorem dX3_pourComes_34 : decode cX3_pourComes 34 = .ok (.invokevirtual 259, 3) := by decide +kernel
theorem dX3_pourComes_37 : decode cX3_pourComes 37 = .ok (.invokevirtual 109, 3) := by decide +kernel
theorem dX3_pourComes_40 : decode cX3_pourComes 40 = .ok (.ireturn, 1) := by decide +kernel
theorem dX3_thinkOn_0 : decode cX3_thinkOn 0 = .ok (.aload_n 0, 1) := by decide +kernel
theorem dX3_thinkOn_1 : decode cX3_thinkOn 1 = .ok (.getfield 16, 3) := by decide +kernel
theorem dX3_thinkOn_4 : decode cX3_thinkOn 4 = .ok (.aload_n 0, 1) := by decide +kernel
theorem dX3_thinkOn_5 : decode cX3_thinkOn 5 = .ok (.getfield 10, 3) := by decide +kernel
theorem dX3_thinkOn_8 : decode cX3_thinkOn 8 = .ok (.invokevirtual 151, 3) := by decide +kernel
theorem dX3_thinkOn_11 : decode cX3_thinkOn 11 = .ok (.aload_n 0, 1) := by decide +kernel
theorem dX3_thinkOn_12 : decode cX3_thinkOn 12 = .ok (.getfield 16, 3) := by decide +kernel
theorem dX3_thinkOn_15 : decode cX3_thinkOn 15 = .ok (.iload_n 1, 1) := by decide +kernel
theorem dX3_thinkOn_16 : decode cX3_thinkOn 16 = .ok (.invokevirtual 155, 3) := by decide +kernel
theorem dX3_thinkOn_19 : decode cX3_thinkOn 19 = .ok (.return_, 1) := by decide +kernel
theorem dX3_keepsLess_0 : decode cX3_keepsLess 0 = .ok (.aload_n 0, 1) := by decide +kernel
theorem dX3_keepsLess_1 : decode cX3_keepsLess 1 = .ok (.getfield 16, 3) := by decide +kernel
theorem dX3_keepsLess_4 : decode cX3_keepsLess 4 = .ok (.iload_n 1, 1) := by decide +kernel
theorem dX3_keepsLess_5 : decode cX3_keepsLess 5 = .ok (.invokevirtual 76, 3) := by decide +kernel
theorem dX3_keepsLess_8 : decode cX3_keepsLess 8 = .ok (.invokevirtual 184, 3) := by decide +kernel
theorem dX3_keepsLess_11 : decode cX3_keepsLess 11 = .ok (.i2l, 1) := by decide +kernel
theorem dX3_keepsLess_12 : decode cX3_keepsLess 12 = .ok (.aload_n 0, 1) := by decide +kernel
theorem dX3_keepsLess_13 : decode cX3_keepsLess 13 = .ok (.getfield 10, 3) := by decide +kernel
theorem dX3_keepsLess_16 : decode cX3_keepsLess 16 = .ok (.iload_n 2, 1) := by decide +kernel
theorem dX3_keepsLess_17 : decode cX3_keepsLess 17 = .ok (.invokevirtual 76, 3) := by decide +kernel
theorem dX3_keepsLess_20 : decode cX3_keepsLess 20 = .ok (.getfield 88, 3) := by decide +kernel
theorem dX3_keepsLess_23 : decode cX3_keepsLess 23 = .ok (.i2l, 1) := by decide +kernel
theorem dX3_keepsLess_24 : decode cX3_keepsLess 24 = .ok (.lmul, 1) := by decide +kernel
theorem dX3_keepsLess_25 : decode cX3_keepsLess 25 = .ok (.lstore_n 3, 1) := by decide +kernel
theorem dX3_keepsLess_26 : decode cX3_keepsLess 26 = .ok (.aload_n 0, 1) := by decide +kernel
theorem dX3_keepsLess_27 : decode cX3_keepsLess 27 = .ok (.getfield 16, 3) := by decide +kernel
theorem dX3_keepsLess_30 : decode cX3_keepsLess 30 = .ok (.iload_n 2, 1) := by decide +kernel
theorem dX3_keepsLess_31 : decode cX3_keepsLess 31 = .ok (.invokevirtual 76, 3) := by decide +kernel
theorem dX3_keepsLess_34 : decode cX3_keepsLess 34 = .ok (.invokevirtual 184, 3) := by decide +kernel
theorem dX3_keepsLess_37 : decode cX3_keepsLess 37 = .ok (.i2l, 1) := by decide +kernel
theorem dX3_keepsLess_38 : decode cX3_keepsLess 38 = .ok (.aload_n 0, 1) := by decide +kernel
theorem dX3_keepsLess_39 : decode cX3_keepsLess 39 = .ok (.getfield 10, 3) := by decide +kernel
theorem dX3_keepsLess_42 : decode cX3_keepsLess 42 = .ok (.iload_n 1, 1) := by decide +kernel
theorem dX3_keepsLess_43 : decode cX3_keepsLess 43 = .ok (.invokevirtual 76, 3) := by decide +kernel
theorem dX3_keepsLess_46 : decode cX3_keepsLess 46 = .ok (.getfield 88, 3) := by decide +kernel
theorem dX3_keepsLess_49 : decode cX3_keepsLess 49 = .ok (.i2l, 1) := by decide +kernel
theorem dX3_keepsLess_50 : decode cX3_keepsLess 50 = .ok (.lmul, 1) := by decide +kernel
theorem dX3_keepsLess_51 : decode cX3_keepsLess 51 = .ok (.lstore 5, 2) := by decide +kernel
theorem dX3_keepsLess_53 : decode cX3_keepsLess 53 = .ok (.lload_n 3, 1) := by decide +kernel
theorem dX3_keepsLess_54 : decode cX3_keepsLess 54 = .ok (.lload 5, 2) := by decide +kernel
theorem dX3_keepsLess_56 : decode cX3_keepsLess 56 = .ok (.lcmp, 1) := by decide +kernel
theorem dX3_keepsLess_57 : decode cX3_keepsLess 57 = .ok (.ifCond .ge 7, 3) := by decide +kernel
theorem dX3_keepsLess_60 : decode cX3_keepsLess 60 = .ok (.iconst 1, 1) := by decide +kernel
theorem dX3_keepsLess_61 : decode cX3_keepsLess 61 = .ok (.goto 4, 3) := by decide +kernel
theorem dX3_keepsLess_64 : decode cX3_keepsLess 64 = .ok (.iconst 0, 1) := by decide +kernel
theorem dX3_keepsLess_65 : decode cX3_keepsLess 65 = .ok (.ireturn, 1) := by decide +kernel
theorem dX3_thinkTreaty_0 : decode cX3_thinkTreaty 0 = .ok (.aload_n 0, 1) := by decide +kernel
theorem dX3_thinkTreaty_1 : decode cX3_thinkTreaty 1 = .ok (.getfield 16, 3) := by decide +kernel
theorem dX3_thinkTreaty_4 : decode cX3_thinkTreaty 4 = .ok (.aload_n 0, 1) := by decide +kernel
theorem dX3_thinkTreaty_5 : decode cX3_thinkTreaty 5 = .ok (.getfield 10, 3) := by decide +kernel
theorem dX3_thinkTreaty_8 : decode cX3_thinkTreaty 8 = .ok (.invokevirtual 151, 3) := by decide +kernel
theorem dX3_thinkTreaty_11 : decode cX3_thinkTreaty 11 = .ok (.aload_n 0, 1) := by decide +kernel
theorem dX3_thinkTreaty_12 : decode cX3_thinkTreaty 12 = .ok (.getfield 16, 3) := by decide +kernel
theorem dX3_thinkTreaty_15 : decode cX3_thinkTreaty 15 = .ok (.iconst 1, 1) := by decide +kernel
theorem dX3_thinkTreaty_16 : decode cX3_thinkTreaty 16 = .ok (.iload_n 2, 1) := by decide +kernel
theorem dX3_thinkTreaty_17 : decode cX3_thinkTreaty 17 = .ok (.ifCond .ne 7, 3) := by decide +kernel
theorem dX3_thinkTreaty_20 : decode cX3_thinkTreaty 20 = .ok (.iconst 2, 1) := by decide +kernel
theorem dX3_thinkTreaty_21 : decode cX3_thinkTreaty 21 = .ok (.goto 5, 3) := by decide +kernel
theorem dX3_thinkTreaty_24 : decode cX3_thinkTreaty 24 = .ok (.bipush 8, 2) := by decide +kernel
theorem dX3_thinkTreaty_26 : decode cX3_thinkTreaty 26 = .ok (.invokevirtual 103, 3) := by decide +kernel
theorem dX3_thinkTreaty_29 : decode cX3_thinkTreaty 29 = .ok (.pop, 1) := by decide +kernel
theorem dX3_thinkTreaty_30 : decode cX3_thinkTreaty 30 = .ok (.aload_n 0, 1) := by decide +kernel
theorem dX3_thinkTreaty_31 : decode cX3_thinkTreaty 31 = .ok (.getfield 16, 3) := by decide +kernel
theorem dX3_thinkTreaty_34 : decode cX3_thinkTreaty 34 = .ok (.iconst 0, 1) := by decide +kernel
theorem dX3_thinkTreaty_35 : decode cX3_thinkTreaty 35 = .ok (.iload_n 3, 1) := by decide +kernel
theorem dX3_thinkTreaty_36 : decode cX3_thinkTreaty 36 = .ok (.ifCond .ne 13, 3) := by decide +kernel
theorem dX3_thinkTreaty_39 : decode cX3_thinkTreaty 39 = .ok (.aload_n 0, 1) := by decide +kernel
theorem dX3_thinkTreaty_40 : decode cX3_thinkTreaty 40 = .ok (.getfield 10, 3) := by decide +kernel
theorem dX3_thinkTreaty_43 : decode cX3_thinkTreaty 43 = .ok (.getfield 231, 3) := by decide +kernel
theorem dX3_thinkTreaty_46 : decode cX3_thinkTreaty 46 = .ok (.goto 12, 3) := by decide +kernel
theorem dX3_thinkTreaty_49 : decode cX3_thinkTreaty 49 = .ok (.aload_n 0, 1) := by decide +kernel
theorem dX3_thinkTreaty_50 : decode cX3_thinkTreaty 50 = .ok (.getfield 10, 3) := by decide +kernel
theorem dX3_thinkTreaty_53 : decode cX3_thinkTreaty 53 = .ok (.getfield 231, 3) := by decide +kernel
theorem dX3_thinkTreaty_56 : decode cX3_thinkTreaty 56 = .ok (.iconst 2, 1) := by decide +kernel
theorem dX3_thinkTreaty_57 : decode cX3_thinkTreaty 57 = .ok (.idiv, 1) := by decide +kernel
theorem dX3_thinkTreaty_58 : decode cX3_thinkTreaty 58 = .ok (.invokevirtual 103, 3) := by decide +kernel
theorem dX3_thinkTreaty_61 : decode cX3_thinkTreaty 61 = .ok (.pop, 1) := by decide +kernel
theorem dX3_thinkTreaty_62 : decode cX3_thinkTreaty 62 = .ok (.aload_n 0, 1) := by decide +kernel
theorem dX3_thinkTreaty_63 : decode cX3_thinkTreaty 63 = .ok (.getfield 16, 3) := by decide +kernel
theorem dX3_thinkTreaty_66 : decode cX3_thinkTreaty 66 = .ok (.iload_n 1, 1) := by decide +kernel
theorem dX3_thinkTreaty_67 : decode cX3_thinkTreaty 67 = .ok (.invokevirtual 155, 3) := by decide +kernel
theorem dX3_thinkTreaty_70 : decode cX3_thinkTreaty 70 = .ok (.return_, 1) := by decide +kernel
theorem dX3_bothKeep_0 : decode cX3_bothKeep 0 = .ok (.aload_n 0, 1) := by decide +kernel
theorem dX3_bothKeep_1 : decode cX3_bothKeep 1 = .ok (.iload_n 1, 1) := by decide +kernel
theorem dX3_bothKeep_2 : decode cX3_bothKeep 2 = .ok (.iload_n 2, 1) := by decide +kernel
theorem dX3_bothKeep_3 : decode cX3_bothKeep 3 = .ok (.iload_n 3, 1) := by decide +kernel
theorem dX3_bothKeep_4 : decode cX3_bothKeep 4 = .ok (.invokevirtual 271, 3) := by decide +kernel
theorem dX3_bothKeep_7 : decode cX3_bothKeep 7 = .ok (.aload_n 0, 1) := by decide +kernel
theorem dX3_bothKeep_8 : decode cX3_bothKeep 8 = .ok (.getfield 16, 3) := by decide +kernel
theorem dX3_bothKeep_11 : decode cX3_bothKeep 11 = .ok (.invokevirtual 125, 3) := by decide +kernel
theorem dX3_bothKeep_14 : decode cX3_bothKeep 14 = .ok (.istore 4, 2) := by decide +kernel
theorem dX3_bothKeep_16 : decode cX3_bothKeep 16 = .ok (.aload_n 0, 1) := by decide +kernel
theorem dX3_bothKeep_17 : decode cX3_bothKeep 17 = .ok (.getfield 16, 3) := by decide +kernel
theorem dX3_bothKeep_20 : decode cX3_bothKeep 20 = .ok (.invokevirtual 128, 3) := by decide +kernel
theorem dX3_bothKeep_23 : decode cX3_bothKeep 23 = .ok (.istore 5, 2) := by decide +kernel
theorem dX3_bothKeep_25 : decode cX3_bothKeep 25 = .ok (.aload_n 0, 1) := by decide +kernel
theorem dX3_bothKeep_26 : decode cX3_bothKeep 26 = .ok (.iload_n 1, 1) := by decide +kernel
theorem dX3_bothKeep_27 : decode cX3_bothKeep 27 = .ok (.iconst 1, 1) := by decide +kernel
theorem dX3_bothKeep_28 : decode cX3_bothKeep 28 = .ok (.iload_n 2, 1) := by decide +kernel
theorem dX3_bothKeep_29 : decode cX3_bothKeep 29 = .ok (.isub, 1) := by decide +kernel
theorem dX3_bothKeep_30 : decode cX3_bothKeep 30 = .ok (.iload_n 3, 1) := by decide +kernel
theorem dX3_bothKeep_31 : decode cX3_bothKeep 31 = .ok (.invokevirtual 271, 3) := by decide +kernel
theorem dX3_bothKeep_34 : decode cX3_bothKeep 34 = .ok (.aload_n 0, 1) := by decide +kernel
theorem dX3_bothKeep_35 : decode cX3_bothKeep 35 = .ok (.getfield 16, 3) := by decide +kernel
theorem dX3_bothKeep_38 : decode cX3_bothKeep 38 = .ok (.invokevirtual 125, 3) := by decide +kernel
theorem dX3_bothKeep_41 : decode cX3_bothKeep 41 = .ok (.iload 4, 2) := by decide +kernel
theorem dX3_bothKeep_43 : decode cX3_bothKeep 43 = .ok (.if_icmp .le 5, 3) := by decide +kernel
theorem dX3_bothKeep_46 : decode cX3_bothKeep 46 = .ok (.iconst 0, 1) := by decide +kernel
theorem dX3_bothKeep_47 : decode cX3_bothKeep 47 = .ok (.ireturn, 1) := by decide +kernel
theorem dX3_bothKeep_48 : decode cX3_bothKeep 48 = .ok (.aload_n 0, 1) := by decide +kernel
theorem dX3_bothKeep_49 : decode cX3_bothKeep 49 = .ok (.iload_n 1, 1) := by decide +kernel
theorem dX3_bothKeep_50 : decode cX3_bothKeep 50 = .ok (.iload_n 2, 1) := by decide +kernel
theorem dX3_bothKeep_51 : decode cX3_bothKeep 51 = .ok (.iconst 1, 1) := by decide +kernel
theorem dX3_bothKeep_52 : decode cX3_bothKeep 52 = .ok (.iload_n 3, 1) := by decide +kernel
theorem dX3_bothKeep_53 : decode cX3_bothKeep 53 = .ok (.isub, 1) := by decide +kernel
theorem dX3_bothKeep_54 : decode cX3_bothKeep 54 = .ok (.invokevirtual 271, 3) := by decide +kernel
theorem dX3_bothKeep_57 : decode cX3_bothKeep 57 = .ok (.aload_n 0, 1) := by decide +kernel
theorem dX3_bothKeep_58 : decode cX3_bothKeep 58 = .ok (.getfield 16, 3) := by decide +kernel
theorem dX3_bothKeep_61 : decode cX3_bothKeep 61 = .ok (.invokevirtual 128, 3) := by decide +kernel
theorem dX3_bothKeep_64 : decode cX3_bothKeep 64 = .ok (.iload 5, 2) := by decide +kernel
theorem dX3_bothKeep_66 : decode cX3_bothKeep 66 = .ok (.if_icmp .gt 7, 3) := by decide +kernel
theorem dX3_bothKeep_69 : decode cX3_bothKeep 69 = .ok (.iconst 1, 1) := by decide +kernel
theorem dX3_bothKeep_70 : decode cX3_bothKeep 70 = .ok (.goto 4, 3) := by decide +kernel
theorem dX3_bothKeep_73 : decode cX3_bothKeep 73 = .ok (.iconst 0, 1) := by decide +kernel
theorem dX3_bothKeep_74 : decode cX3_bothKeep 74 = .ok (.ireturn, 1) := by decide +kernel
theorem dX3_firstNotSo_0 : decode cX3_firstNotSo 0 = .ok (.iconst 0, 1) := by decide +kernel
theorem dX3_firstNotSo_1 : decode cX3_firstNotSo 1 = .ok (.istore_n 2, 1) := by decide +kernel
theorem dX3_firstNotSo_2 : decode cX3_firstNotSo 2 = .ok (.iload_n 2, 1) := by decide +kernel
theorem dX3_firstNotSo_3 : decode cX3_firstNotSo 3 = .ok (.aload_n 0, 1) := by decide +kernel
theorem dX3_firstNotSo_4 : decode cX3_firstNotSo 4 = .ok (.getfield 37, 3) := by decide +kernel
theorem dX3_firstNotSo_7 : decode cX3_firstNotSo 7 = .ok (.if_icmp .ge 53, 3) := by decide +kernel
theorem dX3_firstNotSo_10 : decode cX3_firstNotSo 10 = .ok (.iload_n 2, 1) := by decide +kernel
theorem dX3_firstNotSo_11 : decode cX3_firstNotSo 11 = .ok (.aload_n 0, 1) := by decide +kernel
theorem dX3_firstNotSo_12 : decode cX3_firstNotSo 12 = .ok (.getfield 33, 3) := by decide +kernel
theorem dX3_firstNotSo_15 : decode cX3_firstNotSo 15 = .ok (.arraylength, 1) := by decide +kernel
theorem dX3_firstNotSo_16 : decode cX3_firstNotSo 16 = .ok (.if_icmp .ge 44, 3) := by decide +kernel
theorem dX3_firstNotSo_19 : decode cX3_firstNotSo 19 = .ok (.aload_n 0, 1) := by decide +kernel
theorem dX3_firstNotSo_20 : decode cX3_firstNotSo 20 = .ok (.getfield 16, 3) := by decide +kernel
theorem dX3_firstNotSo_23 : decode cX3_firstNotSo 23 = .ok (.iload_n 1, 1) := by decide +kernel
theorem dX3_firstNotSo_24 : decode cX3_firstNotSo 24 = .ok (.invokevirtual 76, 3) := by decide +kernel
theorem dX3_firstNotSo_27 : decode cX3_firstNotSo 27 = .ok (.getfield 88, 3) := by decide +kernel
theorem dX3_firstNotSo_30 : decode cX3_firstNotSo 30 = .ok (.bipush 99, 2) := by decide +kernel
theorem dX3_firstNotSo_32 : decode cX3_firstNotSo 32 = .ok (.invokestatic 178, 3) := by decide +kernel
theorem dX3_firstNotSo_35 : decode cX3_firstNotSo 35 = .ok (.aload_n 0, 1) := by decide +kernel
theorem dX3_firstNotSo_36 : decode cX3_firstNotSo 36 = .ok (.getfield 33, 3) := by decide +kernel
theorem dX3_firstNotSo_39 : decode cX3_firstNotSo 39 = .ok (.iload_n 2, 1) := by decide +kernel
theorem dX3_firstNotSo_40 : decode cX3_firstNotSo 40 = .ok (.iaload, 1) := by decide +kernel
theorem dX3_firstNotSo_41 : decode cX3_firstNotSo 41 = .ok (.if_icmp .eq 5, 3) := by decide +kernel
theorem dX3_firstNotSo_44 : decode cX3_firstNotSo 44 = .ok (.iload_n 2, 1) := by decide +kernel
theorem dX3_firstNotSo_45 : decode cX3_firstNotSo 45 = .ok (.ireturn, 1) := by decide +kernel
theorem dX3_firstNotSo_46 : decode cX3_firstNotSo 46 = .ok (.aload_n 0, 1) := by decide +kernel
theorem dX3_firstNotSo_47 : decode cX3_firstNotSo 47 = .ok (.getfield 16, 3) := by decide +kernel
theorem dX3_firstNotSo_50 : decode cX3_firstNotSo 50 = .ok (.iconst 1, 1) := by decide +kernel
theorem dX3_firstNotSo_51 : decode cX3_firstNotSo 51 = .ok (.invokevirtual 155, 3) := by decide +kernel
theorem dX3_firstNotSo_54 : decode cX3_firstNotSo 54 = .ok (.iinc 2 1, 3) := by decide +kernel
theorem dX3_firstNotSo_57 : decode cX3_firstNotSo 57 = .ok (.goto (-55), 3) := by decide +kernel
theorem dX3_firstNotSo_60 : decode cX3_firstNotSo 60 = .ok (.bipush (-9), 2) := by decide +kernel
theorem dX3_firstNotSo_62 : decode cX3_firstNotSo 62 = .ok (.ireturn, 1) := by decide +kernel
theorem dX3_kindsByRow_0 : decode cX3_kindsByRow 0 = .ok (.iconst 0, 1) := by decide +kernel
theorem dX3_kindsByRow_1 : decode cX3_kindsByRow 1 = .ok (.istore_n 2, 1) := by decide +kernel
theorem dX3_kindsByRow_2 : decode cX3_kindsByRow 2 = .ok (.iconst 0, 1) := by decide +kernel
theorem dX3_kindsByRow_3 : decode cX3_kindsByRow 3 = .ok (.istore_n 3, 1) := by decide +kernel
theorem dX3_kindsByRow_4 : decode cX3_kindsByRow 4 = .ok (.iload_n 3, 1) := by decide +kernel
theorem dX3_kindsByRow_5 : decode cX3_kindsByRow 5 = .ok (.bipush 6, 2) := by decide +kernel
theorem dX3_kindsByRow_7 : decode cX3_kindsByRow 7 = .ok (.if_icmp .ge 48, 3) := by decide +kernel
theorem dX3_kindsByRow_10 : decode cX3_kindsByRow 10 = .ok (.aload_n 0, 1) := by decide +kernel
theorem dX3_kindsByRow_11 : decode cX3_kindsByRow 11 = .ok (.getfield 16, 3) := by decide +kernel
theorem dX3_kindsByRow_14 : decode cX3_kindsByRow 14 = .ok (.aload_n 0, 1) := by decide +kernel
theorem dX3_kindsByRow_15 : decode cX3_kindsByRow 15 = .ok (.getfield 10, 3) := by decide +kernel
theorem dX3_kindsByRow_18 : decode cX3_kindsByRow 18 = .ok (.invokevirtual 151, 3) := by decide +kernel
theorem dX3_kindsByRow_21 : decode cX3_kindsByRow 21 = .ok (.aload_n 0, 1) := by decide +kernel
theorem dX3_kindsByRow_22 : decode cX3_kindsByRow 22 = .ok (.getfield 16, 3) := by decide +kernel
theorem dX3_kindsByRow_25 : decode cX3_kindsByRow 25 = .ok (.iload_n 1, 1) := by decide +kernel
theorem dX3_kindsByRow_26 : decode cX3_kindsByRow 26 = .ok (.invokevirtual 76, 3) := by decide +kernel
theorem dX3_kindsByRow_29 : decode cX3_kindsByRow 29 = .ok (.iload_n 3, 1) := by decide +kernel
theorem dX3_kindsByRow_30 : decode cX3_kindsByRow 30 = .ok (.putfield 80, 3) := by decide +kernel
theorem dX3_kindsByRow_33 : decode cX3_kindsByRow 33 = .ok (.aload_n 0, 1) := by decide +kernel
theorem dX3_kindsByRow_34 : decode cX3_kindsByRow 34 = .ok (.iload_n 1, 1) := by decide +kernel
theorem dX3_kindsByRow_35 : decode cX3_kindsByRow 35 = .ok (.invokevirtual 207, 3) := by decide +kernel
theorem dX3_kindsByRow_38 : decode cX3_kindsByRow 38 = .ok (.bipush (-9), 2) := by decide +kernel
theorem dX3_kindsByRow_40 : decode cX3_kindsByRow 40 = .ok (.if_icmp .ne 9, 3) := by decide +kernel
theorem dX3_kindsByRow_43 : decode cX3_kindsByRow 43 = .ok (.iload_n 2, 1) := by decide +kernel
theorem dX3_kindsByRow_44 : decode cX3_kindsByRow 44 = .ok (.iconst 1, 1) := by decide +kernel
theorem dX3_kindsByRow_45 : decode cX3_kindsByRow 45 = .ok (.iload_n 3, 1) := by decide +kernel
theorem dX3_kindsByRow_46 : decode cX3_kindsByRow 46 = .ok (.ishl, 1) := by decide +kernel
theorem dX3_kindsByRow_47 : decode cX3_kindsByRow 47 = .ok (.ior, 1) := by decide +kernel
theorem dX3_kindsByRow_48 : decode cX3_kindsByRow 48 = .ok (.istore_n 2, 1) := by decide +kernel
theorem dX3_kindsByRow_49 : decode cX3_kindsByRow 49 = .ok (.iinc 3 1, 3) := by decide +kernel
theorem dX3_kindsByRow_52 : decode cX3_kindsByRow 52 = .ok (.goto (-48), 3) := by decide +kernel
theorem dX3_kindsByRow_55 : decode cX3_kindsByRow 55 = .ok (.iload_n 2, 1) := by decide +kernel
theorem dX3_kindsByRow_56 : decode cX3_kindsByRow 56 = .ok (.ireturn, 1) := by decide +kernel
theorem dX3_ratesByRow_0 : decode cX3_ratesByRow 0 = .ok (.iconst 0, 1) := by decide +kernel
theorem dX3_ratesByRow_1 : decode cX3_ratesByRow 1 = .ok (.istore_n 2, 1) := by decide +kernel
theorem dX3_ratesByRow_2 : decode cX3_ratesByRow 2 = .ok (.iconst 0, 1) := by decide +kernel
theorem dX3_ratesByRow_3 : decode cX3_ratesByRow 3 = .ok (.istore_n 3, 1) := by decide +kernel
theorem dX3_ratesByRow_4 : decode cX3_ratesByRow 4 = .ok (.iload_n 3, 1) := by decide +kernel
theorem dX3_ratesByRow_5 : decode cX3_ratesByRow 5 = .ok (.bipush 40, 2) := by decide +kernel
theorem dX3_ratesByRow_7 : decode cX3_ratesByRow 7 = .ok (.if_icmp .gt 43, 3) := by decide +kernel
theorem dX3_ratesByRow_10 : decode cX3_ratesByRow 10 = .ok (.aload_n 0, 1) := by decide +kernel
theorem dX3_ratesByRow_11 : decode cX3_ratesByRow 11 = .ok (.getfield 16, 3) := by decide +kernel
theorem dX3_ratesByRow_14 : decode cX3_ratesByRow 14 = .ok (.aload_n 0, 1) := by decide +kernel
theorem dX3_ratesByRow_15 : decode cX3_ratesByRow 15 = .ok (.getfield 10, 3) := by decide +kernel
theorem dX3_ratesByRow_18 : decode cX3_ratesByRow 18 = .ok (.invokevirtual 151, 3) := by decide +kernel
theorem dX3_ratesByRow_21 : decode cX3_ratesByRow 21 = .ok (.aload_n 0, 1) := by decide +kernel
theorem dX3_ratesByRow_22 : decode cX3_ratesByRow 22 = .ok (.getfield 16, 3) := by decide +kernel
theorem dX3_ratesByRow_25 : decode cX3_ratesByRow 25 = .ok (.iconst 0, 1) := by decide +kernel
theorem dX3_ratesByRow_26 : decode cX3_ratesByRow 26 = .ok (.iload_n 3, 1) := by decide +kernel
theorem dX3_ratesByRow_27 : decode cX3_ratesByRow 27 = .ok (.invokevirtual 103, 3) := by decide +kernel
theorem dX3_ratesByRow_30 : decode cX3_ratesByRow 30 = .ok (.pop, 1) := by decide +kernel
theorem dX3_ratesByRow_31 : decode cX3_ratesByRow 31 = .ok (.aload_n 0, 1) := by decide +kernel
theorem dX3_ratesByRow_32 : decode cX3_ratesByRow 32 = .ok (.iload_n 1, 1) := by decide +kernel
theorem dX3_ratesByRow_33 : decode cX3_ratesByRow 33 = .ok (.invokevirtual 207, 3) := by decide +kernel
theorem dX3_ratesByRow_36 : decode cX3_ratesByRow 36 = .ok (.bipush (-9), 2) := by decide +kernel
theorem dX3_ratesByRow_38 : decode cX3_ratesByRow 38 = .ok (.if_icmp .ne 6, 3) := by decide +kernel
theorem dX3_ratesByRow_41 : decode cX3_ratesByRow 41 = .ok (.iinc 2 1, 3) := by decide +kernel
theorem dX3_ratesByRow_44 : decode cX3_ratesByRow 44 = .ok (.iinc 3 1, 3) := by decide +kernel
theorem dX3_ratesByRow_47 : decode cX3_ratesByRow 47 = .ok (.goto (-43), 3) := by decide +kernel
theorem dX3_ratesByRow_50 : decode cX3_ratesByRow 50 = .ok (.iload_n 2, 1) := by decide +kernel
theorem dX3_ratesByRow_51 : decode cX3_ratesByRow 51 = .ok (.ireturn, 1) := by decide +kernel
theorem dX3_amountByLents_0 : decode cX3_amountByLents 0 = .ok (.aload_n 0, 1) := by decide +kernel
theorem dX3_amountByLents_1 : decode cX3_amountByLents 1 = .ok (.getfield 16, 3) := by decide +kernel
theorem dX3_amountByLents_4 : decode cX3_amountByLents 4 = .ok (.iload_n 1, 1) := by decide +kernel
theorem dX3_amountByLents_5 : decode cX3_amountByLents 5 = .ok (.invokevirtual 76, 3) := by decide +kernel
theorem dX3_amountByLents_8 : decode cX3_amountByLents 8 = .ok (.astore 4, 2) := by decide +kernel
theorem dX3_amountByLents_10 : decode cX3_amountByLents 10 = .ok (.aload 4, 2) := by decide +kernel
theorem dX3_amountByLents_12 : decode cX3_amountByLents 12 = .ok (.aload_n 0, 1) := by decide +kernel
theorem dX3_amountByLents_13 : decode cX3_amountByLents 13 = .ok (.getfield 10, 3) := by decide +kernel
theorem dX3_amountByLents_16 : decode cX3_amountByLents 16 = .ok (.iload_n 1, 1) := by decide +kernel
theorem dX3_amountByLents_17 : decode cX3_amountByLents 17 = .ok (.invokevirtual 76, 3) := by decide +kernel
theorem dX3_amountByLents_20 : decode cX3_amountByLents 20 = .ok (.invokevirtual 275, 3) := by decide +kernel
theorem dX3_amountByLents_23 : decode cX3_amountByLents 23 = .ok (.iconst 0, 1) := by decide +kernel
theorem dX3_amountByLents_24 : decode cX3_amountByLents 24 = .ok (.istore 5, 2) := by decide +kernel
theorem dX3_amountByLents_26 : decode cX3_amountByLents 26 = .ok (.iload 5, 2) := by decide +kernel
theorem dX3_amountByLents_28 : decode cX3_amountByLents 28 = .ok (.iload_n 2, 1) := by decide +kernel
theorem dX3_amountByLents_29 : decode cX3_amountByLents 29 = .ok (.if_icmp .ge 48, 3) := by decide +kernel
theorem dX3_amountByLents_32 : decode cX3_amountByLents 32 = .ok (.aload 4, 2) := by decide +kernel
theorem dX3_amountByLents_34 : decode cX3_amountByLents 34 = .ok (.aload_n 0, 1) := by decide +kernel
theorem dX3_amountByLents_35 : decode cX3_amountByLents 35 = .ok (.getfield 10, 3) := by decide +kernel
theorem dX3_amountByLents_38 : decode cX3_amountByLents 38 = .ok (.iload_n 3, 1) := by decide +kernel
theorem dX3_amountByLents_39 : decode cX3_amountByLents 39 = .ok (.iload 5, 2) := by decide +kernel
theorem dX3_amountByLents_41 : decode cX3_amountByLents 41 = .ok (.ishr, 1) := by decide +kernel
theorem dX3_amountByLents_42 : decode cX3_amountByLents 42 = .ok (.iconst 1, 1) := by decide +kernel
theorem dX3_amountByLents_43 : decode cX3_amountByLents 43 = .ok (.iand, 1) := by decide +kernel
theorem dX3_amountByLents_44 : decode cX3_amountByLents 44 = .ok (.iconst 1, 1) := by decide +kernel
theorem dX3_amountByLents_45 : decode cX3_amountByLents 45 = .ok (.if_icmp .ne 7, 3) := by decide +kernel
theorem dX3_amountByLents_48 : decode cX3_amountByLents 48 = .ok (.iconst 1, 1) := by decide +kernel
theorem dX3_amountByLents_49 : decode cX3_amountByLents 49 = .ok (.goto 4, 3) := by decide +kernel
theorem dX3_amountByLents_52 : decode cX3_amountByLents 52 = .ok (.iconst 0, 1) := by decide +kernel
theorem dX3_amountByLents_53 : decode cX3_amountByLents 53 = .ok (.invokevirtual 278, 3) := by decide +kernel
theorem dX3_amountByLents_56 : decode cX3_amountByLents 56 = .ok (.aload_n 0, 1) := by decide +kernel
theorem dX3_amountByLents_57 : decode cX3_amountByLents 57 = .ok (.getfield 10, 3) := by decide +kernel
theorem dX3_amountByLents_60 : decode cX3_amountByLents 60 = .ok (.getfield 115, 3) := by decide +kernel
theorem dX3_amountByLents_63 : decode cX3_amountByLents 63 = .ok (.iconst 1, 1) := by decide +kernel
theorem dX3_amountByLents_64 : decode cX3_amountByLents 64 = .ok (.iadd, 1) := by decide +kernel
theorem dX3_amountByLents_65 : decode cX3_amountByLents 65 = .ok (.iload 5, 2) := by decide +kernel
theorem dX3_amountByLents_67 : decode cX3_amountByLents 67 = .ok (.iadd, 1) := by decide +kernel
theorem dX3_amountByLents_68 : decode cX3_amountByLents 68 = .ok (.invokevirtual 282, 3) := by decide +kernel
theorem dX3_amountByLents_71 : decode cX3_amountByLents 71 = .ok (.iinc 5 1, 3) := by decide +kernel
theorem dX3_amountByLents_74 : decode cX3_amountByLents 74 = .ok (.goto (-48), 3) := by decide +kernel
theorem dX3_amountByLents_77 : decode cX3_amountByLents 77 = .ok (.aload 4, 2) := by decide +kernel
theorem dX3_amountByLents_79 : decode cX3_amountByLents 79 = .ok (.getfield 88, 3) := by decide +kernel
theorem dX3_amountByLents_82 : decode cX3_amountByLents 82 = .ok (.ireturn, 1) := by decide +kernel
theorem dX3_nextSeed_0 : decode cX3_nextSeed 0 = .ok (.iload_n 0, 1) := by decide +kernel
theorem dX3_nextSeed_1 : decode cX3_nextSeed 1 = .ok (.ldc_w 285, 3) := by decide +kernel
theorem dX3_nextSeed_4 : decode cX3_nextSeed 4 = .ok (.imul, 1) := by decide +kernel
theorem dX3_nextSeed_5 : decode cX3_nextSeed 5 = .ok (.ldc_w 286, 3) := by decide +kernel
theorem dX3_nextSeed_8 : decode cX3_nextSeed 8 = .ok (.iadd, 1) := by decide +kernel
theorem dX3_nextSeed_9 : decode cX3_nextSeed 9 = .ok (.ireturn, 1) := by decide +kernel
theorem dX3_drawn_0 : decode cX3_drawn 0 = .ok (.iload_n 1, 1) := by decide +kernel
theorem dX3_drawn_1 : decode cX3_drawn 1 = .ok (.ifCond .le 17, 3) := by decide +kernel
theorem dX3_drawn_4 : decode cX3_drawn 4 = .ok (.iload_n 0, 1) := by decide +kernel
theorem dX3_drawn_5 : decode cX3_drawn 5 = .ok (.ldc_w 287, 3) := by decide +kernel
theorem dX3_drawn_8 : decode cX3_drawn 8 = .ok (.iand, 1) := by decide +kernel
theorem dX3_drawn_9 : decode cX3_drawn 9 = .ok (.sipush 256, 3) := by decide +kernel
theorem dX3_drawn_12 : decode cX3_drawn 12 = .ok (.idiv, 1) := by decide +kernel
theorem dX3_drawn_13 : decode cX3_drawn 13 = .ok (.iload_n 1, 1) := by decide +kernel
theorem dX3_drawn_14 : decode cX3_drawn 14 = .ok (.irem, 1) := by decide +kernel
theorem dX3_drawn_15 : decode cX3_drawn 15 = .ok (.goto 4, 3) := by decide +kernel
theorem dX3_drawn_18 : decode cX3_drawn 18 = .ok (.iconst 0, 1) := by decide +kernel
theorem dX3_drawn_19 : decode cX3_drawn 19 = .ok (.ireturn, 1) := by decide +kernel
theorem dX3_power_0 : decode cX3_power 0 = .ok (.lconst 1, 1) := by decide +kernel
theorem dX3_power_1 : decode cX3_power 1 = .ok (.lstore_n 3, 1) := by decide +kernel
theorem dX3_power_2 : decode cX3_power 2 = .ok (.iconst 0, 1) := by decide +kernel
theorem dX3_power_3 : decode cX3_power 3 = .ok (.istore 5, 2) := by decide +kernel
theorem dX3_power_5 : decode cX3_power 5 = .ok (.iload 5, 2) := by decide +kernel
theorem dX3_power_7 : decode cX3_power 7 = .ok (.iload_n 2, 1) := by decide +kernel
theorem dX3_power_8 : decode cX3_power 8 = .ok (.if_icmp .ge 13, 3) := by decide +kernel
theorem dX3_power_11 : decode cX3_power 11 = .ok (.lload_n 3, 1) := by decide +kernel
theorem dX3_power_12 : decode cX3_power 12 = .ok (.lload_n 0, 1) := by decide +kernel
theorem dX3_power_13 : decode cX3_power 13 = .ok (.lmul, 1) := by decide +kernel
theorem dX3_power_14 : decode cX3_power 14 = .ok (.lstore_n 3, 1) := by decide +kernel
theorem dX3_power_15 : decode cX3_power 15 = .ok (.iinc 5 1, 3) := by decide +kernel
theorem dX3_power_18 : decode cX3_power 18 = .ok (.goto (-13), 3) := by decide +kernel
theorem dX3_power_21 : decode cX3_power 21 = .ok (.lload_n 3, 1) := by decide +kernel
theorem dX3_power_22 : decode cX3_power 22 = .ok (.lreturn, 1) := by decide +kernel
theorem dX3_partOf_0 : decode cX3_partOf 0 = .ok (.lload_n 0, 1) := by decide +kernel
theorem dX3_partOf_1 : decode cX3_partOf 1 = .ok (.lconst 0, 1) := by decide +kernel
theorem dX3_partOf_2 : decode cX3_partOf 2 = .ok (.lcmp, 1) := by decide +kernel
theorem dX3_partOf_3 : decode cX3_partOf 3 = .ok (.ifCond .ne 7, 3) := by decide +kernel
theorem dX3_partOf_6 : decode cX3_partOf 6 = .ok (.iload 4, 2) := by decide +kernel
theorem dX3_partOf_8 : decode cX3_partOf 8 = .ok (.i2l, 1) := by decide +kernel
theorem dX3_partOf_9 : decode cX3_partOf 9 = .ok (.lreturn, 1) := by decide +kernel
theorem dX3_partOf_10 : decode cX3_partOf 10 = .ok (.lload_n 0, 1) := by decide +kernel
theorem dX3_partOf_11 : decode cX3_partOf 11 = .ok (.lload_n 2, 1) := by decide +kernel
theorem dX3_partOf_12 : decode cX3_partOf 12 = .ok (.invokestatic 288, 3) := by decide +kernel
theorem dX3_partOf_15 : decode cX3_partOf 15 = .ok (.lstore 5, 2) := by decide +kernel
theorem dX3_partOf_17 : decode cX3_partOf 17 = .ok (.lload 5, 2) := by decide +kernel
theorem dX3_partOf_19 : decode cX3_partOf 19 = .ok (.lconst 0, 1) := by decide +kernel
theorem dX3_partOf_20 : decode cX3_partOf 20 = .ok (.lcmp, 1) := by decide +kernel
theorem dX3_partOf_21 : decode cX3_partOf 21 = .ok (.ifCond .ne 7, 3) := by decide +kernel
theorem dX3_partOf_24 : decode cX3_partOf 24 = .ok (.lconst 0, 1) := by decide +kernel
theorem dX3_partOf_25 : decode cX3_partOf 25 = .ok (.goto 16, 3) := by decide +kernel
theorem dX3_partOf_28 : decode cX3_partOf 28 = .ok (.iload 4, 2) := by decide +kernel
theorem dX3_partOf_30 : decode cX3_partOf 30 = .ok (.ifCond .ne 7, 3) := by decide +kernel
theorem dX3_partOf_33 : decode cX3_partOf 33 = .ok (.lload_n 0, 1) := by decide +kernel
theorem dX3_partOf_34 : decode cX3_partOf 34 = .ok (.goto 4, 3) := by decide +kernel
theorem dX3_partOf_37 : decode cX3_partOf 37 = .ok (.lload_n 2, 1) := by decide +kernel
theorem dX3_partOf_38 : decode cX3_partOf 38 = .ok (.lload 5, 2) := by decide +kernel
theorem dX3_partOf_40 : decode cX3_partOf 40 = .ok (.ldiv, 1) := by decide +kernel
theorem dX3_partOf_41 : decode cX3_partOf 41 = .ok (.lreturn, 1) := by decide +kernel
theorem dX3_commonDivisor_0 : decode cX3_commonDivisor 0 = .ok (.lload_n 0, 1) := by decide +kernel
theorem dX3_commonDivisor_1 : decode cX3_commonDivisor 1 = .ok (.lstore 4, 2) := by decide +kernel
theorem dX3_commonDivisor_3 : decode cX3_commonDivisor 3 = .ok (.lload_n 2, 1) := by decide +kernel
theorem dX3_commonDivisor_4 : decode cX3_commonDivisor 4 = .ok (.lstore 6, 2) := by decide +kernel
theorem dX3_commonDivisor_6 : decode cX3_commonDivisor 6 = .ok (.iconst 0, 1) := by decide +kernel
theorem dX3_commonDivisor_7 : decode cX3_commonDivisor 7 = .ok (.istore 8, 2) := by decide +kernel
theorem dX3_commonDivisor_9 : decode cX3_commonDivisor 9 = .ok (.iload 8, 2) := by decide +kernel
theorem dX3_commonDivisor_11 : decode cX3_commonDivisor 11 = .ok (.bipush 100, 2) := by decide +kernel
theorem dX3_commonDivisor_13 : decode cX3_commonDivisor 13 = .ok (.if_icmp .ge 31, 3) := by decide +kernel
theorem dX3_commonDivisor_16 : decode cX3_commonDivisor 16 = .ok (.lload 6, 2) := by decide +kernel
theorem dX3_commonDivisor_18 : decode cX3_commonDivisor 18 = .ok (.lconst 0, 1) := by decide +kernel
theorem dX3_commonDivisor_19 : decode cX3_commonDivisor 19 = .ok (.lcmp, 1) := by decide +kernel
theorem dX3_commonDivisor_20 : decode cX3_commonDivisor 20 = .ok (.ifCond .eq 24, 3) := by decide +kernel
theorem dX3_commonDivisor_23 : decode cX3_commonDivisor 23 = .ok (.lload 4, 2) := by decide +kernel
theorem dX3_commonDivisor_25 : decode cX3_commonDivisor 25 = .ok (.lload 6, 2) := by decide +kernel
theorem dX3_commonDivisor_27 : decode cX3_commonDivisor 27 = .ok (.lrem, 1) := by decide +kernel
theorem dX3_commonDivisor_28 : decode cX3_commonDivisor 28 = .ok (.lstore 9, 2) := by decide +kernel
theorem dX3_commonDivisor_30 : decode cX3_commonDivisor 30 = .ok (.lload 6, 2) := by decide +kernel
theorem dX3_commonDivisor_32 : decode cX3_commonDivisor 32 = .ok (.lstore 4, 2) := by decide +kernel
theorem dX3_commonDivisor_34 : decode cX3_commonDivisor 34 = .ok (.lload 9, 2) := by decide +kernel
theorem dX3_commonDivisor_36 : decode cX3_commonDivisor 36 = .ok (.lstore 6, 2) := by decide +kernel
theorem dX3_commonDivisor_38 : decode cX3_commonDivisor 38 = .ok (.iinc 8 1, 3) := by decide +kernel
theorem dX3_commonDivisor_41 : decode cX3_commonDivisor 41 = .ok (.goto (-32), 3) := by decide +kernel
theorem dX3_commonDivisor_44 : decode cX3_commonDivisor 44 = .ok (.lload 4, 2) := by decide +kernel
theorem dX3_commonDivisor_46 : decode cX3_commonDivisor 46 = .ok (.lreturn, 1) := by decide +kernel
