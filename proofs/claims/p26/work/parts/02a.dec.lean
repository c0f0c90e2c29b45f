theorem dX0_init_0 : decode cX0_init 0 = .ok (.aload_n 0, 1) := by decide +kernel
theorem dX0_init_1 : decode cX0_init 1 = .ok (.invokespecial 1, 3) := by decide +kernel
theorem dX0_init_4 : decode cX0_init 4 = .ok (.aload_n 0, 1) := by decide +kernel
theorem dX0_init_5 : decode cX0_init 5 = .ok (.bipush 64, 2) := by decide +kernel
theorem dX0_init_7 : decode cX0_init 7 = .ok (.newarray .int, 2) := by decide +kernel
theorem dX0_init_9 : decode cX0_init 9 = .ok (.putfield 9, 3) := by decide +kernel
theorem dX0_init_12 : decode cX0_init 12 = .ok (.aload_n 0, 1) := by decide +kernel
theorem dX0_init_13 : decode cX0_init 13 = .ok (.bipush 64, 2) := by decide +kernel
theorem dX0_init_15 : decode cX0_init 15 = .ok (.newarray .int, 2) := by decide +kernel
theorem dX0_init_17 : decode cX0_init 17 = .ok (.putfield 13, 3) := by decide +kernel
theorem dX0_init_20 : decode cX0_init 20 = .ok (.aload_n 0, 1) := by decide +kernel
theorem dX0_init_21 : decode cX0_init 21 = .ok (.iconst 0, 1) := by decide +kernel
theorem dX0_init_22 : decode cX0_init 22 = .ok (.newarray .int, 2) := by decide +kernel
theorem dX0_init_24 : decode cX0_init 24 = .ok (.putfield 16, 3) := by decide +kernel
theorem dX0_init_27 : decode cX0_init 27 = .ok (.aload_n 0, 1) := by decide +kernel
theorem dX0_init_28 : decode cX0_init 28 = .ok (.iconst 0, 1) := by decide +kernel
theorem dX0_init_29 : decode cX0_init 29 = .ok (.newarray .int, 2) := by decide +kernel
theorem dX0_init_31 : decode cX0_init 31 = .ok (.putfield 19, 3) := by decide +kernel
theorem dX0_init_34 : decode cX0_init 34 = .ok (.aload_n 0, 1) := by decide +kernel
theorem dX0_init_35 : decode cX0_init 35 = .ok (.iconst 1, 1) := by decide +kernel
theorem dX0_init_36 : decode cX0_init 36 = .ok (.putfield 22, 3) := by decide +kernel
theorem dX0_init_39 : decode cX0_init 39 = .ok (.aload_n 0, 1) := by decide +kernel
theorem dX0_init_40 : decode cX0_init 40 = .ok (.new 26, 3) := by decide +kernel
theorem dX0_init_43 : decode cX0_init 43 = .ok (.dup, 1) := by decide +kernel
theorem dX0_init_44 : decode cX0_init 44 = .ok (.invokespecial 28, 3) := by decide +kernel
theorem dX0_init_47 : decode cX0_init 47 = .ok (.putfield 29, 3) := by decide +kernel
theorem dX0_init_50 : decode cX0_init 50 = .ok (.aload_n 0, 1) := by decide +kernel
theorem dX0_init_51 : decode cX0_init 51 = .ok (.new 26, 3) := by decide +kernel
theorem dX0_init_54 : decode cX0_init 54 = .ok (.dup, 1) := by decide +kernel
theorem dX0_init_55 : decode cX0_init 55 = .ok (.invokespecial 28, 3) := by decide +kernel
theorem dX0_init_58 : decode cX0_init 58 = .ok (.putfield 33, 3) := by decide +kernel
theorem dX0_init_61 : decode cX0_init 61 = .ok (.aload_n 0, 1) := by decide +kernel
theorem dX0_init_62 : decode cX0_init 62 = .ok (.new 26, 3) := by decide +kernel
theorem dX0_init_65 : decode cX0_init 65 = .ok (.dup, 1) := by decide +kernel
theorem dX0_init_66 : decode cX0_init 66 = .ok (.invokespecial 28, 3) := by decide +kernel
theorem dX0_init_69 : decode cX0_init 69 = .ok (.putfield 36, 3) := by decide +kernel
theorem dX0_init_72 : decode cX0_init 72 = .ok (.aload_n 0, 1) := by decide +kernel
theorem dX0_init_73 : decode cX0_init 73 = .ok (.bipush 16, 2) := by decide +kernel
theorem dX0_init_75 : decode cX0_init 75 = .ok (.newarray .int, 2) := by decide +kernel
theorem dX0_init_77 : decode cX0_init 77 = .ok (.putfield 41, 3) := by decide +kernel
theorem dX0_init_80 : decode cX0_init 80 = .ok (.aload_n 0, 1) := by decide +kernel
theorem dX0_init_81 : decode cX0_init 81 = .ok (.bipush 24, 2) := by decide +kernel
theorem dX0_init_83 : decode cX0_init 83 = .ok (.newarray .int, 2) := by decide +kernel
theorem dX0_init_85 : decode cX0_init 85 = .ok (.putfield 46, 3) := by decide +kernel
theorem dX0_init_88 : decode cX0_init 88 = .ok (.aload_n 0, 1) := by decide +kernel
theorem dX0_init_89 : decode cX0_init 89 = .ok (.bipush 24, 2) := by decide +kernel
theorem dX0_init_91 : decode cX0_init 91 = .ok (.newarray .int, 2) := by decide +kernel
theorem dX0_init_93 : decode cX0_init 93 = .ok (.putfield 49, 3) := by decide +kernel
theorem dX0_init_96 : decode cX0_init 96 = .ok (.aload_n 0, 1) := by decide +kernel
theorem dX0_init_97 : decode cX0_init 97 = .ok (.bipush 24, 2) := by decide +kernel
theorem dX0_init_99 : decode cX0_init 99 = .ok (.newarray .int, 2) := by decide +kernel
theorem dX0_init_101 : decode cX0_init 101 = .ok (.putfield 52, 3) := by decide +kernel
theorem dX0_init_104 : decode cX0_init 104 = .ok (.aload_n 0, 1) := by decide +kernel
theorem dX0_init_105 : decode cX0_init 105 = .ok (.bipush 16, 2) := by decide +kernel
theorem dX0_init_107 : decode cX0_init 107 = .ok (.newarray .int, 2) := by decide +kernel
theorem dX0_init_109 : decode cX0_init 109 = .ok (.putfield 55, 3) := by decide +kernel
theorem dX0_init_112 : decode cX0_init 112 = .ok (.aload_n 0, 1) := by decide +kernel
theorem dX0_init_113 : decode cX0_init 113 = .ok (.bipush 16, 2) := by decide +kernel
theorem dX0_init_115 : decode cX0_init 115 = .ok (.newarray .int, 2) := by decide +kernel
theorem dX0_init_117 : decode cX0_init 117 = .ok (.putfield 58, 3) := by decide +kernel
theorem dX0_init_120 : decode cX0_init 120 = .ok (.aload_n 0, 1) := by decide +kernel
theorem dX0_init_121 : decode cX0_init 121 = .ok (.aload_n 0, 1) := by decide +kernel
theorem dX0_init_122 : decode cX0_init 122 = .ok (.invokevirtual 61, 3) := by decide +kernel
theorem dX0_init_125 : decode cX0_init 125 = .ok (.putfield 65, 3) := by decide +kernel
theorem dX0_init_128 : decode cX0_init 128 = .ok (.return_, 1) := by decide +kernel
theorem dX0_not_0 : decode cX0_not 0 = .ok (.iload_n 0, 1) := by decide +kernel
theorem dX0_not_1 : decode cX0_not 1 = .ok (.iconst 1, 1) := by decide +kernel
theorem dX0_not_2 : decode cX0_not 2 = .ok (.ixor, 1) := by decide +kernel
theorem dX0_not_3 : decode cX0_not 3 = .ok (.ireturn, 1) := by decide +kernel
theorem dX0_and_0 : decode cX0_and 0 = .ok (.iload_n 1, 1) := by decide +kernel
theorem dX0_and_1 : decode cX0_and 1 = .ok (.ifCond .eq 7, 3) := by decide +kernel
theorem dX0_and_4 : decode cX0_and 4 = .ok (.iload_n 2, 1) := by decide +kernel
theorem dX0_and_5 : decode cX0_and 5 = .ok (.ifCond .ne 5, 3) := by decide +kernel
theorem dX0_and_8 : decode cX0_and 8 = .ok (.iconst 0, 1) := by decide +kernel
theorem dX0_and_9 : decode cX0_and 9 = .ok (.ireturn, 1) := by decide +kernel
theorem dX0_and_10 : decode cX0_and 10 = .ok (.iload_n 1, 1) := by decide +kernel
theorem dX0_and_11 : decode cX0_and 11 = .ok (.iconst 1, 1) := by decide +kernel
theorem dX0_and_12 : decode cX0_and 12 = .ok (.if_icmp .eq 8, 3) := by decide +kernel
theorem dX0_and_15 : decode cX0_and 15 = .ok (.iload_n 1, 1) := by decide +kernel
theorem dX0_and_16 : decode cX0_and 16 = .ok (.iload_n 2, 1) := by decide +kernel
theorem dX0_and_17 : decode cX0_and 17 = .ok (.if_icmp .ne 5, 3) := by decide +kernel
theorem dX0_and_20 : decode cX0_and 20 = .ok (.iload_n 2, 1) := by decide +kernel
theorem dX0_and_21 : decode cX0_and 21 = .ok (.ireturn, 1) := by decide +kernel
theorem dX0_and_22 : decode cX0_and 22 = .ok (.iload_n 2, 1) := by decide +kernel
theorem dX0_and_23 : decode cX0_and 23 = .ok (.iconst 1, 1) := by decide +kernel
theorem dX0_and_24 : decode cX0_and 24 = .ok (.if_icmp .ne 7, 3) := by decide +kernel
theorem dX0_and_27 : decode cX0_and 27 = .ok (.iload_n 1, 1) := by decide +kernel
theorem dX0_and_28 : decode cX0_and 28 = .ok (.goto 11, 3) := by decide +kernel
theorem dX0_and_31 : decode cX0_and 31 = .ok (.iconst 2, 1) := by decide +kernel
theorem dX0_and_32 : decode cX0_and 32 = .ok (.aload_n 0, 1) := by decide +kernel
theorem dX0_and_33 : decode cX0_and 33 = .ok (.iload_n 1, 1) := by decide +kernel
theorem dX0_and_34 : decode cX0_and 34 = .ok (.iload_n 2, 1) := by decide +kernel
theorem dX0_and_35 : decode cX0_and 35 = .ok (.invokevirtual 68, 3) := by decide +kernel
theorem dX0_and_38 : decode cX0_and 38 = .ok (.imul, 1) := by decide +kernel
theorem dX0_and_39 : decode cX0_and 39 = .ok (.ireturn, 1) := by decide +kernel
theorem dX0_or_0 : decode cX0_or 0 = .ok (.aload_n 0, 1) := by decide +kernel
theorem dX0_or_1 : decode cX0_or 1 = .ok (.iload_n 1, 1) := by decide +kernel
theorem dX0_or_2 : decode cX0_or 2 = .ok (.invokestatic 72, 3) := by decide +kernel
theorem dX0_or_5 : decode cX0_or 5 = .ok (.iload_n 2, 1) := by decide +kernel
theorem dX0_or_6 : decode cX0_or 6 = .ok (.invokestatic 72, 3) := by decide +kernel
theorem dX0_or_9 : decode cX0_or 9 = .ok (.invokevirtual 76, 3) := by decide +kernel
theorem dX0_or_12 : decode cX0_or 12 = .ok (.invokestatic 72, 3) := by decide +kernel
theorem dX0_or_15 : decode cX0_or 15 = .ok (.ireturn, 1) := by decide +kernel
theorem dX0_fresh_0 : decode cX0_fresh 0 = .ok (.iconst 2, 1) := by decide +kernel
theorem dX0_fresh_1 : decode cX0_fresh 1 = .ok (.aload_n 0, 1) := by decide +kernel
theorem dX0_fresh_2 : decode cX0_fresh 2 = .ok (.getfield 22, 3) := by decide +kernel
theorem dX0_fresh_5 : decode cX0_fresh 5 = .ok (.imul, 1) := by decide +kernel
theorem dX0_fresh_6 : decode cX0_fresh 6 = .ok (.istore_n 1, 1) := by decide +kernel
theorem dX0_fresh_7 : decode cX0_fresh 7 = .ok (.aload_n 0, 1) := by decide +kernel
theorem dX0_fresh_8 : decode cX0_fresh 8 = .ok (.iload_n 1, 1) := by decide +kernel
theorem dX0_fresh_9 : decode cX0_fresh 9 = .ok (.iload_n 1, 1) := by decide +kernel
theorem dX0_fresh_10 : decode cX0_fresh 10 = .ok (.invokevirtual 68, 3) := by decide +kernel
theorem dX0_fresh_13 : decode cX0_fresh 13 = .ok (.pop, 1) := by decide +kernel
theorem dX0_fresh_14 : decode cX0_fresh 14 = .ok (.iload_n 1, 1) := by decide +kernel
theorem dX0_fresh_15 : decode cX0_fresh 15 = .ok (.ireturn, 1) := by decide +kernel
theorem dX0_close_0 : decode cX0_close 0 = .ok (.aload_n 0, 1) := by decide +kernel
theorem dX0_close_1 : decode cX0_close 1 = .ok (.getfield 9, 3) := by decide +kernel
theorem dX0_close_4 : decode cX0_close 4 = .ok (.iload_n 1, 1) := by decide +kernel
theorem dX0_close_5 : decode cX0_close 5 = .ok (.iconst 1, 1) := by decide +kernel
theorem dX0_close_6 : decode cX0_close 6 = .ok (.iushr, 1) := by decide +kernel
theorem dX0_close_7 : decode cX0_close 7 = .ok (.iload_n 2, 1) := by decide +kernel
theorem dX0_close_8 : decode cX0_close 8 = .ok (.iastore, 1) := by decide +kernel
theorem dX0_close_9 : decode cX0_close 9 = .ok (.aload_n 0, 1) := by decide +kernel
theorem dX0_close_10 : decode cX0_close 10 = .ok (.getfield 13, 3) := by decide +kernel
theorem dX0_close_13 : decode cX0_close 13 = .ok (.iload_n 1, 1) := by decide +kernel
theorem dX0_close_14 : decode cX0_close 14 = .ok (.iconst 1, 1) := by decide +kernel
theorem dX0_close_15 : decode cX0_close 15 = .ok (.iushr, 1) := by decide +kernel
theorem dX0_close_16 : decode cX0_close 16 = .ok (.iload_n 2, 1) := by decide +kernel
theorem dX0_close_17 : decode cX0_close 17 = .ok (.iastore, 1) := by decide +kernel
theorem dX0_close_18 : decode cX0_close 18 = .ok (.return_, 1) := by decide +kernel
theorem dX0_addNet_0 : decode cX0_addNet 0 = .ok (.aload_n 0, 1) := by decide +kernel
theorem dX0_addNet_1 : decode cX0_addNet 1 = .ok (.getfield 22, 3) := by decide +kernel
theorem dX0_addNet_4 : decode cX0_addNet 4 = .ok (.aload_n 0, 1) := by decide +kernel
theorem dX0_addNet_5 : decode cX0_addNet 5 = .ok (.getfield 9, 3) := by decide +kernel
theorem dX0_addNet_8 : decode cX0_addNet 8 = .ok (.arraylength, 1) := by decide +kernel
theorem dX0_addNet_9 : decode cX0_addNet 9 = .ok (.if_icmp .ne 37, 3) := by decide +kernel
theorem dX0_addNet_12 : decode cX0_addNet 12 = .ok (.aload_n 0, 1) := by decide +kernel
theorem dX0_addNet_13 : decode cX0_addNet 13 = .ok (.aload_n 0, 1) := by decide +kernel
theorem dX0_addNet_14 : decode cX0_addNet 14 = .ok (.getfield 9, 3) := by decide +kernel
theorem dX0_addNet_17 : decode cX0_addNet 17 = .ok (.aload_n 0, 1) := by decide +kernel
theorem dX0_addNet_18 : decode cX0_addNet 18 = .ok (.getfield 22, 3) := by decide +kernel
theorem dX0_addNet_21 : decode cX0_addNet 21 = .ok (.iconst 2, 1) := by decide +kernel
theorem dX0_addNet_22 : decode cX0_addNet 22 = .ok (.imul, 1) := by decide +kernel
theorem dX0_addNet_23 : decode cX0_addNet 23 = .ok (.invokestatic 79, 3) := by decide +kernel
theorem dX0_addNet_26 : decode cX0_addNet 26 = .ok (.putfield 9, 3) := by decide +kernel
theorem dX0_addNet_29 : decode cX0_addNet 29 = .ok (.aload_n 0, 1) := by decide +kernel
theorem dX0_addNet_30 : decode cX0_addNet 30 = .ok (.aload_n 0, 1) := by decide +kernel
theorem dX0_addNet_31 : decode cX0_addNet 31 = .ok (.getfield 13, 3) := by decide +kernel
theorem dX0_addNet_34 : decode cX0_addNet 34 = .ok (.aload_n 0, 1) := by decide +kernel
theorem dX0_addNet_35 : decode cX0_addNet 35 = .ok (.getfield 22, 3) := by decide +kernel
theorem dX0_addNet_38 : decode cX0_addNet 38 = .ok (.iconst 2, 1) := by decide +kernel
theorem dX0_addNet_39 : decode cX0_addNet 39 = .ok (.imul, 1) := by decide +kernel
theorem dX0_addNet_40 : decode cX0_addNet 40 = .ok (.invokestatic 79, 3) := by decide +kernel
theorem dX0_addNet_43 : decode cX0_addNet 43 = .ok (.putfield 13, 3) := by decide +kernel
theorem dX0_addNet_46 : decode cX0_addNet 46 = .ok (.aload_n 0, 1) := by decide +kernel
theorem dX0_addNet_47 : decode cX0_addNet 47 = .ok (.getfield 9, 3) := by decide +kernel
theorem dX0_addNet_50 : decode cX0_addNet 50 = .ok (.aload_n 0, 1) := by decide +kernel
theorem dX0_addNet_51 : decode cX0_addNet 51 = .ok (.getfield 22, 3) := by decide +kernel
theorem dX0_addNet_54 : decode cX0_addNet 54 = .ok (.iload_n 1, 1) := by decide +kernel
theorem dX0_addNet_55 : decode cX0_addNet 55 = .ok (.iastore, 1) := by decide +kernel
theorem dX0_addNet_56 : decode cX0_addNet 56 = .ok (.aload_n 0, 1) := by decide +kernel
theorem dX0_addNet_57 : decode cX0_addNet 57 = .ok (.getfield 13, 3) := by decide +kernel
theorem dX0_addNet_60 : decode cX0_addNet 60 = .ok (.aload_n 0, 1) := by decide +kernel
theorem dX0_addNet_61 : decode cX0_addNet 61 = .ok (.getfield 22, 3) := by decide +kernel
theorem dX0_addNet_64 : decode cX0_addNet 64 = .ok (.iload_n 2, 1) := by decide +kernel
theorem dX0_addNet_65 : decode cX0_addNet 65 = .ok (.iastore, 1) := by decide +kernel
theorem dX0_addNet_66 : decode cX0_addNet 66 = .ok (.aload_n 0, 1) := by decide +kernel
theorem dX0_addNet_67 : decode cX0_addNet 67 = .ok (.dup, 1) := by decide +kernel
theorem dX0_addNet_68 : decode cX0_addNet 68 = .ok (.getfield 22, 3) := by decide +kernel
theorem dX0_addNet_71 : decode cX0_addNet 71 = .ok (.iconst 1, 1) := by decide +kernel
theorem dX0_addNet_72 : decode cX0_addNet 72 = .ok (.iadd, 1) := by decide +kernel
theorem dX0_addNet_73 : decode cX0_addNet 73 = .ok (.putfield 22, 3) := by decide +kernel
theorem dX0_addNet_76 : decode cX0_addNet 76 = .ok (.aload_n 0, 1) := by decide +kernel
theorem dX0_addNet_77 : decode cX0_addNet 77 = .ok (.getfield 22, 3) := by decide +kernel
theorem dX0_addNet_80 : decode cX0_addNet 80 = .ok (.iconst 1, 1) := by decide +kernel
theorem dX0_addNet_81 : decode cX0_addNet 81 = .ok (.isub, 1) := by decide +kernel
theorem dX0_addNet_82 : decode cX0_addNet 82 = .ok (.ireturn, 1) := by decide +kernel
theorem dX0_addSignal_0 : decode cX0_addSignal 0 = .ok (.aload_n 0, 1) := by decide +kernel
theorem dX0_addSignal_1 : decode cX0_addSignal 1 = .ok (.getfield 55, 3) := by decide +kernel
theorem dX0_addSignal_4 : decode cX0_addSignal 4 = .ok (.iload_n 1, 1) := by decide +kernel
theorem dX0_addSignal_5 : decode cX0_addSignal 5 = .ok (.aload_n 0, 1) := by decide +kernel
theorem dX0_addSignal_6 : decode cX0_addSignal 6 = .ok (.invokevirtual 61, 3) := by decide +kernel
theorem dX0_addSignal_9 : decode cX0_addSignal 9 = .ok (.iastore, 1) := by decide +kernel
theorem dX0_addSignal_10 : decode cX0_addSignal 10 = .ok (.return_, 1) := by decide +kernel
theorem dX0_addIf_0 : decode cX0_addIf 0 = .ok (.aload_n 0, 1) := by decide +kernel
theorem dX0_addIf_1 : decode cX0_addIf 1 = .ok (.invokevirtual 61, 3) := by decide +kernel
theorem dX0_addIf_4 : decode cX0_addIf 4 = .ok (.istore_n 1, 1) := by decide +kernel
theorem dX0_addIf_5 : decode cX0_addIf 5 = .ok (.aload_n 0, 1) := by decide +kernel
theorem dX0_addIf_6 : decode cX0_addIf 6 = .ok (.getfield 36, 3) := by decide +kernel
theorem dX0_addIf_9 : decode cX0_addIf 9 = .ok (.iload_n 1, 1) := by decide +kernel
theorem dX0_addIf_10 : decode cX0_addIf 10 = .ok (.invokestatic 85, 3) := by decide +kernel
theorem dX0_addIf_13 : decode cX0_addIf 13 = .ok (.invokevirtual 91, 3) := by decide +kernel
theorem dX0_addIf_16 : decode cX0_addIf 16 = .ok (.pop, 1) := by decide +kernel
theorem dX0_addIf_17 : decode cX0_addIf 17 = .ok (.iload_n 1, 1) := by decide +kernel
theorem dX0_addIf_18 : decode cX0_addIf 18 = .ok (.ireturn, 1) := by decide +kernel
theorem dX0_addPause_0 : decode cX0_addPause 0 = .ok (.iload_n 1, 1) := by decide +kernel
theorem dX0_addPause_1 : decode cX0_addPause 1 = .ok (.aload_n 0, 1) := by decide +kernel
theorem dX0_addPause_2 : decode cX0_addPause 2 = .ok (.getfield 46, 3) := by decide +kernel
theorem dX0_addPause_5 : decode cX0_addPause 5 = .ok (.arraylength, 1) := by decide +kernel
theorem dX0_addPause_6 : decode cX0_addPause 6 = .ok (.if_icmp .ge 39, 3) := by decide +kernel
theorem dX0_addPause_9 : decode cX0_addPause 9 = .ok (.aload_n 0, 1) := by decide +kernel
theorem dX0_addPause_10 : decode cX0_addPause 10 = .ok (.getfield 46, 3) := by decide +kernel
theorem dX0_addPause_13 : decode cX0_addPause 13 = .ok (.iload_n 1, 1) := by decide +kernel
theorem dX0_addPause_14 : decode cX0_addPause 14 = .ok (.iload_n 2, 1) := by decide +kernel
theorem dX0_addPause_15 : decode cX0_addPause 15 = .ok (.iastore, 1) := by decide +kernel
theorem dX0_addPause_16 : decode cX0_addPause 16 = .ok (.aload_n 0, 1) := by decide +kernel
theorem dX0_addPause_17 : decode cX0_addPause 17 = .ok (.getfield 49, 3) := by decide +kernel
theorem dX0_addPause_20 : decode cX0_addPause 20 = .ok (.iload_n 1, 1) := by decide +kernel
theorem dX0_addPause_21 : decode cX0_addPause 21 = .ok (.iload_n 3, 1) := by decide +kernel
theorem dX0_addPause_22 : decode cX0_addPause 22 = .ok (.iastore, 1) := by decide +kernel
theorem dX0_addPause_23 : decode cX0_addPause 23 = .ok (.aload_n 0, 1) := by decide +kernel
theorem dX0_addPause_24 : decode cX0_addPause 24 = .ok (.getfield 52, 3) := by decide +kernel
theorem dX0_addPause_27 : decode cX0_addPause 27 = .ok (.iload_n 1, 1) := by decide +kernel
theorem dX0_addPause_28 : decode cX0_addPause 28 = .ok (.iload 4, 2) := by decide +kernel
theorem dX0_addPause_30 : decode cX0_addPause 30 = .ok (.iastore, 1) := by decide +kernel
theorem dX0_addPause_31 : decode cX0_addPause 31 = .ok (.aload_n 0, 1) := by decide +kernel
theorem dX0_addPause_32 : decode cX0_addPause 32 = .ok (.aload_n 0, 1) := by decide +kernel
theorem dX0_addPause_33 : decode cX0_addPause 33 = .ok (.getfield 95, 3) := by decide +kernel
theorem dX0_addPause_36 : decode cX0_addPause 36 = .ok (.iload_n 1, 1) := by decide +kernel
theorem dX0_addPause_37 : decode cX0_addPause 37 = .ok (.iconst 1, 1) := by decide +kernel
theorem dX0_addPause_38 : decode cX0_addPause 38 = .ok (.iadd, 1) := by decide +kernel
theorem dX0_addPause_39 : decode cX0_addPause 39 = .ok (.invokestatic 98, 3) := by decide +kernel
theorem dX0_addPause_42 : decode cX0_addPause 42 = .ok (.putfield 95, 3) := by decide +kernel
theorem dX0_addPause_45 : decode cX0_addPause 45 = .ok (.return_, 1) := by decide +kernel
theorem dX0_beforeOf_0 : decode cX0_beforeOf 0 = .ok (.aload_n 0, 1) := by decide +kernel
theorem dX0_beforeOf_1 : decode cX0_beforeOf 1 = .ok (.getfield 41, 3) := by decide +kernel
theorem dX0_beforeOf_4 : decode cX0_beforeOf 4 = .ok (.iload_n 1, 1) := by decide +kernel
theorem dX0_beforeOf_5 : decode cX0_beforeOf 5 = .ok (.iaload, 1) := by decide +kernel
theorem dX0_beforeOf_6 : decode cX0_beforeOf 6 = .ok (.ifCond .ne 13, 3) := by decide +kernel
theorem dX0_beforeOf_9 : decode cX0_beforeOf 9 = .ok (.aload_n 0, 1) := by decide +kernel
theorem dX0_beforeOf_10 : decode cX0_beforeOf 10 = .ok (.getfield 41, 3) := by decide +kernel
theorem dX0_beforeOf_13 : decode cX0_beforeOf 13 = .ok (.iload_n 1, 1) := by decide +kernel
theorem dX0_beforeOf_14 : decode cX0_beforeOf 14 = .ok (.aload_n 0, 1) := by decide +kernel
theorem dX0_beforeOf_15 : decode cX0_beforeOf 15 = .ok (.invokevirtual 61, 3) := by decide +kernel
theorem dX0_beforeOf_18 : decode cX0_beforeOf 18 = .ok (.iastore, 1) := by decide +kernel
theorem dX0_beforeOf_19 : decode cX0_beforeOf 19 = .ok (.aload_n 0, 1) := by decide +kernel
theorem dX0_beforeOf_20 : decode cX0_beforeOf 20 = .ok (.getfield 41, 3) := by decide +kernel
theorem dX0_beforeOf_23 : decode cX0_beforeOf 23 = .ok (.iload_n 1, 1) := by decide +kernel
theorem dX0_beforeOf_24 : decode cX0_beforeOf 24 = .ok (.iaload, 1) := by decide +kernel
theorem dX0_beforeOf_25 : decode cX0_beforeOf 25 = .ok (.ireturn, 1) := by decide +kernel
theorem dX0_beforeMask_0 : decode cX0_beforeMask 0 = .ok (.iconst 0, 1) := by decide +kernel
theorem dX0_beforeMask_1 : decode cX0_beforeMask 1 = .ok (.istore_n 1, 1) := by decide +kernel
theorem dX0_beforeMask_2 : decode cX0_beforeMask 2 = .ok (.iconst 0, 1) := by decide +kernel
theorem dX0_beforeMask_3 : decode cX0_beforeMask 3 = .ok (.istore_n 2, 1) := by decide +kernel
theorem dX0_beforeMask_4 : decode cX0_beforeMask 4 = .ok (.iload_n 2, 1) := by decide +kernel
theorem dX0_beforeMask_5 : decode cX0_beforeMask 5 = .ok (.aload_n 0, 1) := by decide +kernel
theorem dX0_beforeMask_6 : decode cX0_beforeMask 6 = .ok (.getfield 41, 3) := by decide +kernel
theorem dX0_beforeMask_9 : decode cX0_beforeMask 9 = .ok (.arraylength, 1) := by decide +kernel
theorem dX0_beforeMask_10 : decode cX0_beforeMask 10 = .ok (.if_icmp .ge 24, 3) := by decide +kernel
theorem dX0_beforeMask_13 : decode cX0_beforeMask 13 = .ok (.aload_n 0, 1) := by decide +kernel
theorem dX0_beforeMask_14 : decode cX0_beforeMask 14 = .ok (.getfield 41, 3) := by decide +kernel
theorem dX0_beforeMask_17 : decode cX0_beforeMask 17 = .ok (.iload_n 2, 1) := by decide +kernel
theorem dX0_beforeMask_18 : decode cX0_beforeMask 18 = .ok (.iaload, 1) := by decide +kernel
theorem dX0_beforeMask_19 : decode cX0_beforeMask 19 = .ok (.ifCond .eq 9, 3) := by decide +kernel
theorem dX0_beforeMask_22 : decode cX0_beforeMask 22 = .ok (.iload_n 1, 1) := by decide +kernel
theorem dX0_beforeMask_23 : decode cX0_beforeMask 23 = .ok (.iconst 1, 1) := by decide +kernel
theorem dX0_beforeMask_24 : decode cX0_beforeMask 24 = .ok (.iload_n 2, 1) := by decide +kernel
theorem dX0_beforeMask_25 : decode cX0_beforeMask 25 = .ok (.ishl, 1) := by decide +kernel
theorem dX0_beforeMask_26 : decode cX0_beforeMask 26 = .ok (.ior, 1) := by decide +kernel
theorem dX0_beforeMask_27 : decode cX0_beforeMask 27 = .ok (.istore_n 1, 1) := by decide +kernel
theorem dX0_beforeMask_28 : decode cX0_beforeMask 28 = .ok (.iinc 2 1, 3) := by decide +kernel
theorem dX0_beforeMask_31 : decode cX0_beforeMask 31 = .ok (.goto (-27), 3) := by decide +kernel
theorem dX0_beforeMask_34 : decode cX0_beforeMask 34 = .ok (.iload_n 1, 1) := by decide +kernel
theorem dX0_beforeMask_35 : decode cX0_beforeMask 35 = .ok (.ireturn, 1) := by decide +kernel
theorem dX0_holding_0 : decode cX0_holding 0 = .ok (.iload_n 1, 1) := by decide +kernel
theorem dX0_holding_1 : decode cX0_holding 1 = .ok (.ifCond .ne 5, 3) := by decide +kernel
theorem dX0_holding_4 : decode cX0_holding 4 = .ok (.iconst 0, 1) := by decide +kernel
theorem dX0_holding_5 : decode cX0_holding 5 = .ok (.ireturn, 1) := by decide +kernel
theorem dX0_holding_6 : decode cX0_holding 6 = .ok (.iconst 0, 1) := by decide +kernel
theorem dX0_holding_7 : decode cX0_holding 7 = .ok (.istore_n 2, 1) := by decide +kernel
theorem dX0_holding_8 : decode cX0_holding 8 = .ok (.iload_n 2, 1) := by decide +kernel
theorem dX0_holding_9 : decode cX0_holding 9 = .ok (.aload_n 0, 1) := by decide +kernel
theorem dX0_holding_10 : decode cX0_holding 10 = .ok (.getfield 29, 3) := by decide +kernel
theorem dX0_holding_13 : decode cX0_holding 13 = .ok (.invokevirtual 103, 3) := by decide +kernel
theorem dX0_holding_16 : decode cX0_holding 16 = .ok (.if_icmp .ge 44, 3) := by decide +kernel
theorem dX0_holding_19 : decode cX0_holding 19 = .ok (.aload_n 0, 1) := by decide +kernel
theorem dX0_holding_20 : decode cX0_holding 20 = .ok (.getfield 29, 3) := by decide +kernel
theorem dX0_holding_23 : decode cX0_holding 23 = .ok (.iload_n 2, 1) := by decide +kernel
theorem dX0_holding_24 : decode cX0_holding 24 = .ok (.invokevirtual 106, 3) := by decide +kernel
theorem dX0_holding_27 : decode cX0_holding 27 = .ok (.checkcast 86, 3) := by decide +kernel
theorem dX0_holding_30 : decode cX0_holding 30 = .ok (.invokevirtual 110, 3) := by decide +kernel
theorem dX0_holding_33 : decode cX0_holding 33 = .ok (.istore_n 3, 1) := by decide +kernel
theorem dX0_holding_34 : decode cX0_holding 34 = .ok (.iload_n 3, 1) := by decide +kernel
theorem dX0_holding_35 : decode cX0_holding 35 = .ok (.iload_n 1, 1) := by decide +kernel
theorem dX0_holding_36 : decode cX0_holding 36 = .ok (.if_icmp .ne 18, 3) := by decide +kernel
theorem dX0_holding_39 : decode cX0_holding 39 = .ok (.aload_n 0, 1) := by decide +kernel
theorem dX0_holding_40 : decode cX0_holding 40 = .ok (.getfield 33, 3) := by decide +kernel
theorem dX0_holding_43 : decode cX0_holding 43 = .ok (.iload_n 2, 1) := by decide +kernel
theorem dX0_holding_44 : decode cX0_holding 44 = .ok (.invokevirtual 106, 3) := by decide +kernel
theorem dX0_holding_47 : decode cX0_holding 47 = .ok (.checkcast 86, 3) := by decide +kernel
theorem dX0_holding_50 : decode cX0_holding 50 = .ok (.invokevirtual 110, 3) := by decide +kernel
theorem dX0_holding_53 : decode cX0_holding 53 = .ok (.ireturn, 1) := by decide +kernel
theorem dX0_holding_54 : decode cX0_holding 54 = .ok (.iinc 2 1, 3) := by decide +kernel
theorem dX0_holding_57 : decode cX0_holding 57 = .ok (.goto (-49), 3) := by decide +kernel
theorem dX0_holding_60 : decode cX0_holding 60 = .ok (.aload_n 0, 1) := by decide +kernel
theorem dX0_holding_61 : decode cX0_holding 61 = .ok (.invokevirtual 61, 3) := by decide +kernel
theorem dX0_holding_64 : decode cX0_holding 64 = .ok (.istore_n 2, 1) := by decide +kernel
theorem dX0_holding_65 : decode cX0_holding 65 = .ok (.aload_n 0, 1) := by decide +kernel
theorem dX0_holding_66 : decode cX0_holding 66 = .ok (.getfield 29, 3) := by decide +kernel
theorem dX0_holding_69 : decode cX0_holding 69 = .ok (.iload_n 1, 1) := by decide +kernel
theorem dX0_holding_70 : decode cX0_holding 70 = .ok (.invokestatic 85, 3) := by decide +kernel
theorem dX0_holding_73 : decode cX0_holding 73 = .ok (.invokevirtual 91, 3) := by decide +kernel
theorem dX0_holding_76 : decode cX0_holding 76 = .ok (.pop, 1) := by decide +kernel
theorem dX0_holding_77 : decode cX0_holding 77 = .ok (.aload_n 0, 1) := by decide +kernel
theorem dX0_holding_78 : decode cX0_holding 78 = .ok (.getfield 33, 3) := by decide +kernel
theorem dX0_holding_81 : decode cX0_holding 81 = .ok (.iload_n 2, 1) := by decide +kernel
theorem dX0_holding_82 : decode cX0_holding 82 = .ok (.invokestatic 85, 3) := by decide +kernel
theorem dX0_holding_85 : decode cX0_holding 85 = .ok (.invokevirtual 91, 3) := by decide +kernel
theorem dX0_holding_88 : decode cX0_holding 88 = .ok (.pop, 1) := by decide +kernel
theorem dX0_holding_89 : decode cX0_holding 89 = .ok (.iload_n 2, 1) := by decide +kernel
theorem dX0_holding_90 : decode cX0_holding 90 = .ok (.ireturn, 1) := by decide +kernel
theorem dX0_stand_0 : decode cX0_stand 0 = .ok (.aload_n 0, 1) := by decide +kernel
theorem dX0_stand_1 : decode cX0_stand 1 = .ok (.getfield 16, 3) := by decide +kernel
theorem dX0_stand_4 : decode cX0_stand 4 = .ok (.arraylength, 1) := by decide +kernel
theorem dX0_stand_5 : decode cX0_stand 5 = .ok (.aload_n 0, 1) := by decide +kernel
theorem dX0_stand_6 : decode cX0_stand 6 = .ok (.getfield 22, 3) := by decide +kernel
theorem dX0_stand_9 : decode cX0_stand 9 = .ok (.if_icmp .ge 23, 3) := by decide +kernel
theorem dX0_stand_12 : decode cX0_stand 12 = .ok (.aload_n 0, 1) := by decide +kernel
theorem dX0_stand_13 : decode cX0_stand 13 = .ok (.aload_n 0, 1) := by decide +kernel
theorem dX0_stand_14 : decode cX0_stand 14 = .ok (.getfield 22, 3) := by decide +kernel
theorem dX0_stand_17 : decode cX0_stand 17 = .ok (.newarray .int, 2) := by decide +kernel
theorem dX0_stand_19 : decode cX0_stand 19 = .ok (.putfield 16, 3) := by decide +kernel
theorem dX0_stand_22 : decode cX0_stand 22 = .ok (.aload_n 0, 1) := by decide +kernel
theorem dX0_stand_23 : decode cX0_stand 23 = .ok (.aload_n 0, 1) := by decide +kernel
theorem dX0_stand_24 : decode cX0_stand 24 = .ok (.getfield 22, 3) := by decide +kernel
theorem dX0_stand_27 : decode cX0_stand 27 = .ok (.newarray .int, 2) := by decide +kernel
theorem dX0_stand_29 : decode cX0_stand 29 = .ok (.putfield 19, 3) := by decide +kernel
theorem dX0_stand_32 : decode cX0_stand 32 = .ok (.aload_n 0, 1) := by decide +kernel
theorem dX0_stand_33 : decode cX0_stand 33 = .ok (.getfield 16, 3) := by decide +kernel
theorem dX0_stand_36 : decode cX0_stand 36 = .ok (.iconst 0, 1) := by decide +kernel
theorem dX0_stand_37 : decode cX0_stand 37 = .ok (.invokestatic 113, 3) := by decide +kernel
theorem dX0_stand_40 : decode cX0_stand 40 = .ok (.aload_n 0, 1) := by decide +kernel
theorem dX0_stand_41 : decode cX0_stand 41 = .ok (.getfield 19, 3) := by decide +kernel
theorem dX0_stand_44 : decode cX0_stand 44 = .ok (.iconst 0, 1) := by decide +kernel
theorem dX0_stand_45 : decode cX0_stand 45 = .ok (.invokestatic 113, 3) := by decide +kernel
theorem dX0_stand_48 : decode cX0_stand 48 = .ok (.aload_n 0, 1) := by decide +kernel
theorem dX0_stand_49 : decode cX0_stand 49 = .ok (.getfield 19, 3) := by decide +kernel
theorem dX0_stand_52 : decode cX0_stand 52 = .ok (.iconst 0, 1) := by decide +kernel
theorem dX0_stand_53 : decode cX0_stand 53 = .ok (.iconst (-1), 1) := by decide +kernel
theorem dX0_stand_54 : decode cX0_stand 54 = .ok (.iastore, 1) := by decide +kernel
theorem dX0_stand_55 : decode cX0_stand 55 = .ok (.aload_n 0, 1) := by decide +kernel
theorem dX0_stand_56 : decode cX0_stand 56 = .ok (.aload_n 0, 1) := by decide +kernel
theorem dX0_stand_57 : decode cX0_stand 57 = .ok (.getfield 65, 3) := by decide +kernel
theorem dX0_stand_60 : decode cX0_stand 60 = .ok (.iload_n 3, 1) := by decide +kernel
theorem dX0_stand_61 : decode cX0_stand 61 = .ok (.ifCond .eq 7, 3) := by decide +kernel
theorem dX0_stand_64 : decode cX0_stand 64 = .ok (.iconst (-1), 1) := by decide +kernel
theorem dX0_stand_65 : decode cX0_stand 65 = .ok (.goto 4, 3) := by decide +kernel
theorem dX0_stand_68 : decode cX0_stand 68 = .ok (.iconst 0, 1) := by decide +kernel
theorem dX0_stand_69 : decode cX0_stand 69 = .ok (.invokevirtual 117, 3) := by decide +kernel
theorem dX0_stand_72 : decode cX0_stand 72 = .ok (.iconst 0, 1) := by decide +kernel
theorem dX0_stand_73 : decode cX0_stand 73 = .ok (.istore 4, 2) := by decide +kernel
theorem dX0_stand_75 : decode cX0_stand 75 = .ok (.iload 4, 2) := by decide +kernel
theorem dX0_stand_77 : decode cX0_stand 77 = .ok (.aload_n 0, 1) := by decide +kernel
theorem dX0_stand_78 : decode cX0_stand 78 = .ok (.getfield 29, 3) := by decide +kernel
theorem dX0_stand_81 : decode cX0_stand 81 = .ok (.invokevirtual 103, 3) := by decide +kernel
theorem dX0_stand_84 : decode cX0_stand 84 = .ok (.if_icmp .ge 53, 3) := by decide +kernel
theorem dX0_stand_87 : decode cX0_stand 87 = .ok (.aload_n 0, 1) := by decide +kernel
theorem dX0_stand_88 : decode cX0_stand 88 = .ok (.aload_n 0, 1) := by decide +kernel
theorem dX0_stand_89 : decode cX0_stand 89 = .ok (.getfield 33, 3) := by decide +kernel
theorem dX0_stand_92 : decode cX0_stand 92 = .ok (.iload 4, 2) := by decide +kernel
theorem dX0_stand_94 : decode cX0_stand 94 = .ok (.invokevirtual 106, 3) := by decide +kernel
theorem dX0_stand_97 : decode cX0_stand 97 = .ok (.checkcast 86, 3) := by decide +kernel
theorem dX0_stand_100 : decode cX0_stand 100 = .ok (.invokevirtual 110, 3) := by decide +kernel
theorem dX0_stand_103 : decode cX0_stand 103 = .ok (.iload_n 1, 1) := by decide +kernel
theorem dX0_stand_104 : decode cX0_stand 104 = .ok (.aload_n 0, 1) := by decide +kernel
theorem dX0_stand_105 : decode cX0_stand 105 = .ok (.getfield 29, 3) := by decide +kernel
theorem dX0_stand_108 : decode cX0_stand 108 = .ok (.iload 4, 2) := by decide +kernel
theorem dX0_stand_110 : decode cX0_stand 110 = .ok (.invokevirtual 106, 3) := by decide +kernel
theorem dX0_stand_113 : decode cX0_stand 113 = .ok (.checkcast 86, 3) := by decide +kernel
theorem dX0_stand_116 : decode cX0_stand 116 = .ok (.invokevirtual 110, 3) := by decide +kernel
theorem dX0_stand_119 : decode cX0_stand 119 = .ok (.iand, 1) := by decide +kernel
theorem dX0_stand_120 : decode cX0_stand 120 = .ok (.ifCond .eq 7, 3) := by decide +kernel
theorem dX0_stand_123 : decode cX0_stand 123 = .ok (.iconst (-1), 1) := by decide +kernel
theorem dX0_stand_124 : decode cX0_stand 124 = .ok (.goto 4, 3) := by decide +kernel
theorem dX0_stand_127 : decode cX0_stand 127 = .ok (.iconst 0, 1) := by decide +kernel
theorem dX0_stand_128 : decode cX0_stand 128 = .ok (.invokevirtual 117, 3) := by decide +kernel
theorem dX0_stand_131 : decode cX0_stand 131 = .ok (.iinc 4 1, 3) := by decide +kernel
theorem dX0_stand_134 : decode cX0_stand 134 = .ok (.goto (-59), 3) := by decide +kernel
theorem dX0_stand_137 : decode cX0_stand 137 = .ok (.iconst 0, 1) := by decide +kernel
theorem dX0_stand_138 : decode cX0_stand 138 = .ok (.istore 4, 2) := by decide +kernel
theorem dX0_stand_140 : decode cX0_stand 140 = .ok (.iload 4, 2) := by decide +kernel
theorem dX0_stand_142 : decode cX0_stand 142 = .ok (.aload_n 0, 1) := by decide +kernel
theorem dX0_stand_143 : decode cX0_stand 143 = .ok (.getfield 41, 3) := by decide +kernel
theorem dX0_stand_146 : decode cX0_stand 146 = .ok (.arraylength, 1) := by decide +kernel
theorem dX0_stand_147 : decode cX0_stand 147 = .ok (.if_icmp .ge 44, 3) := by decide +kernel
theorem dX0_stand_150 : decode cX0_stand 150 = .ok (.aload_n 0, 1) := by decide +kernel
theorem dX0_stand_151 : decode cX0_stand 151 = .ok (.getfield 41, 3) := by decide +kernel
theorem dX0_stand_154 : decode cX0_stand 154 = .ok (.iload 4, 2) := by decide +kernel
theorem dX0_stand_156 : decode cX0_stand 156 = .ok (.iaload, 1) := by decide +kernel
theorem dX0_stand_157 : decode cX0_stand 157 = .ok (.ifCond .eq 28, 3) := by decide +kernel
theorem dX0_stand_160 : decode cX0_stand 160 = .ok (.aload_n 0, 1) := by decide +kernel
theorem dX0_stand_161 : decode cX0_stand 161 = .ok (.aload_n 0, 1) := by decide +kernel
theorem dX0_stand_162 : decode cX0_stand 162 = .ok (.getfield 41, 3) := by decide +kernel
theorem dX0_stand_165 : decode cX0_stand 165 = .ok (.iload 4, 2) := by decide +kernel
theorem dX0_stand_167 : decode cX0_stand 167 = .ok (.iaload, 1) := by decide +kernel
theorem dX0_stand_168 : decode cX0_stand 168 = .ok (.iload_n 2, 1) := by decide +kernel
theorem dX0_stand_169 : decode cX0_stand 169 = .ok (.iload 4, 2) := by decide +kernel
theorem dX0_stand_171 : decode cX0_stand 171 = .ok (.iushr, 1) := by decide +kernel
theorem dX0_stand_172 : decode cX0_stand 172 = .ok (.iconst 1, 1) := by decide +kernel
theorem dX0_stand_173 : decode cX0_stand 173 = .ok (.iand, 1) := by decide +kernel
theorem dX0_stand_174 : decode cX0_stand 174 = .ok (.ifCond .eq 7, 3) := by decide +kernel
theorem dX0_stand_177 : decode cX0_stand 177 = .ok (.iconst (-1), 1) := by decide +kernel
theorem dX0_stand_178 : decode cX0_stand 178 = .ok (.goto 4, 3) := by decide +kernel
theorem dX0_stand_181 : decode cX0_stand 181 = .ok (.iconst 0, 1) := by decide +kernel
theorem dX0_stand_182 : decode cX0_stand 182 = .ok (.invokevirtual 117, 3) := by decide +kernel
theorem dX0_stand_185 : decode cX0_stand 185 = .ok (.iinc 4 1, 3) := by decide +kernel
theorem dX0_stand_188 : decode cX0_stand 188 = .ok (.goto (-48), 3) := by decide +kernel
theorem dX0_stand_191 : decode cX0_stand 191 = .ok (.return_, 1) := by decide +kernel
theorem dX0_tellInput_0 : decode cX0_tellInput 0 = .ok (.aload_n 0, 1) := by decide +kernel
theorem dX0_tellInput_1 : decode cX0_tellInput 1 = .ok (.aload_n 0, 1) := by decide +kernel
theorem dX0_tellInput_2 : decode cX0_tellInput 2 = .ok (.getfield 55, 3) := by decide +kernel
theorem dX0_tellInput_5 : decode cX0_tellInput 5 = .ok (.iload_n 1, 1) := by decide +kernel
theorem dX0_tellInput_6 : decode cX0_tellInput 6 = .ok (.iaload, 1) := by decide +kernel
theorem dX0_tellInput_7 : decode cX0_tellInput 7 = .ok (.iload_n 2, 1) := by decide +kernel
theorem dX0_tellInput_8 : decode cX0_tellInput 8 = .ok (.invokevirtual 117, 3) := by decide +kernel
theorem dX0_tellInput_11 : decode cX0_tellInput 11 = .ok (.return_, 1) := by decide +kernel
theorem dX0_tellIf_0 : decode cX0_tellIf 0 = .ok (.iload_n 1, 1) := by decide +kernel
theorem dX0_tellIf_1 : decode cX0_tellIf 1 = .ok (.aload_n 0, 1) := by decide +kernel
theorem dX0_tellIf_2 : decode cX0_tellIf 2 = .ok (.getfield 36, 3) := by decide +kernel
theorem dX0_tellIf_5 : decode cX0_tellIf 5 = .ok (.invokevirtual 103, 3) := by decide +kernel
theorem dX0_tellIf_8 : decode cX0_tellIf 8 = .ok (.if_icmp .ge 22, 3) := by decide +kernel
theorem dX0_tellIf_11 : decode cX0_tellIf 11 = .ok (.aload_n 0, 1) := by decide +kernel
theorem dX0_tellIf_12 : decode cX0_tellIf 12 = .ok (.aload_n 0, 1) := by decide +kernel
theorem dX0_tellIf_13 : decode cX0_tellIf 13 = .ok (.getfield 36, 3) := by decide +kernel
theorem dX0_tellIf_16 : decode cX0_tellIf 16 = .ok (.iload_n 1, 1) := by decide +kernel
theorem dX0_tellIf_17 : decode cX0_tellIf 17 = .ok (.invokevirtual 106, 3) := by decide +kernel
theorem dX0_tellIf_20 : decode cX0_tellIf 20 = .ok (.checkcast 86, 3) := by decide +kernel
theorem dX0_tellIf_23 : decode cX0_tellIf 23 = .ok (.invokevirtual 110, 3) := by decide +kernel
theorem dX0_tellIf_26 : decode cX0_tellIf 26 = .ok (.iload_n 2, 1) := by decide +kernel
theorem dX0_tellIf_27 : decode cX0_tellIf 27 = .ok (.invokevirtual 117, 3) := by decide +kernel
theorem dX0_tellIf_30 : decode cX0_tellIf 30 = .ok (.return_, 1) := by decide +kernel
theorem dX0_tell_0 : decode cX0_tell 0 = .ok (.aload_n 0, 1) := by decide +kernel
theorem dX0_tell_1 : decode cX0_tell 1 = .ok (.getfield 16, 3) := by decide +kernel
theorem dX0_tell_4 : decode cX0_tell 4 = .ok (.iload_n 1, 1) := by decide +kernel
theorem dX0_tell_5 : decode cX0_tell 5 = .ok (.iconst 1, 1) := by decide +kernel
theorem dX0_tell_6 : decode cX0_tell 6 = .ok (.iushr, 1) := by decide +kernel
theorem dX0_tell_7 : decode cX0_tell 7 = .ok (.iload_n 2, 1) := by decide +kernel
theorem dX0_tell_8 : decode cX0_tell 8 = .ok (.iastore, 1) := by decide +kernel
theorem dX0_tell_9 : decode cX0_tell 9 = .ok (.aload_n 0, 1) := by decide +kernel
theorem dX0_tell_10 : decode cX0_tell 10 = .ok (.getfield 19, 3) := by decide +kernel
theorem dX0_tell_13 : decode cX0_tell 13 = .ok (.iload_n 1, 1) := by decide +kernel
theorem dX0_tell_14 : decode cX0_tell 14 = .ok (.iconst 1, 1) := by decide +kernel
theorem dX0_tell_15 : decode cX0_tell 15 = .ok (.iushr, 1) := by decide +kernel
theorem dX0_tell_16 : decode cX0_tell 16 = .ok (.iload_n 2, 1) := by decide +kernel
theorem dX0_tell_17 : decode cX0_tell 17 = .ok (.iconst (-1), 1) := by decide +kernel
theorem dX0_tell_18 : decode cX0_tell 18 = .ok (.ixor, 1) := by decide +kernel
theorem dX0_tell_19 : decode cX0_tell 19 = .ok (.iastore, 1) := by decide +kernel
theorem dX0_tell_20 : decode cX0_tell 20 = .ok (.return_, 1) := by decide +kernel
theorem dX0_settle_0 : decode cX0_settle 0 = .ok (.iconst 1, 1) := by decide +kernel
theorem dX0_settle_1 : decode cX0_settle 1 = .ok (.istore_n 1, 1) := by decide +kernel
theorem dX0_settle_2 : decode cX0_settle 2 = .ok (.iconst 0, 1) := by decide +kernel
theorem dX0_settle_3 : decode cX0_settle 3 = .ok (.istore_n 2, 1) := by decide +kernel
theorem dX0_settle_4 : decode cX0_settle 4 = .ok (.iload_n 2, 1) := by decide +kernel
theorem dX0_settle_5 : decode cX0_settle 5 = .ok (.ldc 121, 2) := by decide +kernel
theorem dX0_settle_7 : decode cX0_settle 7 = .ok (.if_icmp .ge 18, 3) := by decide +kernel
theorem dX0_settle_10 : decode cX0_settle 10 = .ok (.iload_n 1, 1) := by decide +kernel
theorem dX0_settle_11 : decode cX0_settle 11 = .ok (.ifCond .eq 14, 3) := by decide +kernel
theorem dX0_settle_14 : decode cX0_settle 14 = .ok (.aload_n 0, 1) := by decide +kernel
theorem dX0_settle_15 : decode cX0_settle 15 = .ok (.invokevirtual 122, 3) := by decide +kernel
theorem dX0_settle_18 : decode cX0_settle 18 = .ok (.istore_n 1, 1) := by decide +kernel
theorem dX0_settle_19 : decode cX0_settle 19 = .ok (.iinc 2 1, 3) := by decide +kernel
theorem dX0_settle_22 : decode cX0_settle 22 = .ok (.goto (-18), 3) := by decide +kernel
theorem dX0_settle_25 : decode cX0_settle 25 = .ok (.return_, 1) := by decide +kernel
theorem dX0_sweep_0 : decode cX0_sweep 0 = .ok (.iconst 0, 1) := by decide +kernel
theorem dX0_sweep_1 : decode cX0_sweep 1 = .ok (.istore_n 1, 1) := by decide +kernel
theorem dX0_sweep_2 : decode cX0_sweep 2 = .ok (.iconst 1, 1) := by decide +kernel
theorem dX0_sweep_3 : decode cX0_sweep 3 = .ok (.istore_n 2, 1) := by decide +kernel
theorem dX0_sweep_4 : decode cX0_sweep 4 = .ok (.iload_n 2, 1) := by decide +kernel
theorem dX0_sweep_5 : decode cX0_sweep 5 = .ok (.aload_n 0, 1) := by decide +kernel
theorem dX0_sweep_6 : decode cX0_sweep 6 = .ok (.getfield 22, 3) := by decide +kernel
theorem dX0_sweep_9 : decode cX0_sweep 9 = .ok (.if_icmp .ge 98, 3) := by decide +kernel
theorem dX0_sweep_12 : decode cX0_sweep 12 = .ok (.aload_n 0, 1) := by decide +kernel
theorem dX0_sweep_13 : decode cX0_sweep 13 = .ok (.aload_n 0, 1) := by decide +kernel
theorem dX0_sweep_14 : decode cX0_sweep 14 = .ok (.getfield 9, 3) := by decide +kernel
theorem dX0_sweep_17 : decode cX0_sweep 17 = .ok (.iload_n 2, 1) := by decide +kernel
theorem dX0_sweep_18 : decode cX0_sweep 18 = .ok (.iaload, 1) := by decide +kernel
theorem dX0_sweep_19 : decode cX0_sweep 19 = .ok (.invokevirtual 126, 3) := by decide +kernel
theorem dX0_sweep_22 : decode cX0_sweep 22 = .ok (.aload_n 0, 1) := by decide +kernel
theorem dX0_sweep_23 : decode cX0_sweep 23 = .ok (.aload_n 0, 1) := by decide +kernel
theorem dX0_sweep_24 : decode cX0_sweep 24 = .ok (.getfield 13, 3) := by decide +kernel
theorem dX0_sweep_27 : decode cX0_sweep 27 = .ok (.iload_n 2, 1) := by decide +kernel
theorem dX0_sweep_28 : decode cX0_sweep 28 = .ok (.iaload, 1) := by decide +kernel
theorem dX0_sweep_29 : decode cX0_sweep 29 = .ok (.invokevirtual 126, 3) := by decide +kernel
theorem dX0_sweep_32 : decode cX0_sweep 32 = .ok (.iand, 1) := by decide +kernel
theorem dX0_sweep_33 : decode cX0_sweep 33 = .ok (.istore_n 3, 1) := by decide +kernel
theorem dX0_sweep_34 : decode cX0_sweep 34 = .ok (.aload_n 0, 1) := by decide +kernel
theorem dX0_sweep_35 : decode cX0_sweep 35 = .ok (.aload_n 0, 1) := by decide +kernel
theorem dX0_sweep_36 : decode cX0_sweep 36 = .ok (.getfield 9, 3) := by decide +kernel
theorem dX0_sweep_39 : decode cX0_sweep 39 = .ok (.iload_n 2, 1) := by decide +kernel
theorem dX0_sweep_40 : decode cX0_sweep 40 = .ok (.iaload, 1) := by decide +kernel
theorem dX0_sweep_41 : decode cX0_sweep 41 = .ok (.invokestatic 72, 3) := by decide +kernel
theorem dX0_sweep_44 : decode cX0_sweep 44 = .ok (.invokevirtual 126, 3) := by decide +kernel
theorem dX0_sweep_47 : decode cX0_sweep 47 = .ok (.aload_n 0, 1) := by decide +kernel
theorem dX0_sweep_48 : decode cX0_sweep 48 = .ok (.aload_n 0, 1) := by decide +kernel
theorem dX0_sweep_49 : decode cX0_sweep 49 = .ok (.getfield 13, 3) := by decide +kernel
theorem dX0_sweep_52 : decode cX0_sweep 52 = .ok (.iload_n 2, 1) := by decide +kernel
theorem dX0_sweep_53 : decode cX0_sweep 53 = .ok (.iaload, 1) := by decide +kernel
theorem dX0_sweep_54 : decode cX0_sweep 54 = .ok (.invokestatic 72, 3) := by decide +kernel
theorem dX0_sweep_57 : decode cX0_sweep 57 = .ok (.invokevirtual 126, 3) := by decide +kernel
theorem dX0_sweep_60 : decode cX0_sweep 60 = .ok (.ior, 1) := by decide +kernel
theorem dX0_sweep_61 : decode cX0_sweep 61 = .ok (.istore 4, 2) := by decide +kernel
theorem dX0_sweep_63 : decode cX0_sweep 63 = .ok (.iload_n 3, 1) := by decide +kernel
theorem dX0_sweep_64 : decode cX0_sweep 64 = .ok (.aload_n 0, 1) := by decide +kernel
theorem dX0_sweep_65 : decode cX0_sweep 65 = .ok (.getfield 16, 3) := by decide +kernel
theorem dX0_sweep_68 : decode cX0_sweep 68 = .ok (.iload_n 2, 1) := by decide +kernel
theorem dX0_sweep_69 : decode cX0_sweep 69 = .ok (.iaload, 1) := by decide +kernel
theorem dX0_sweep_70 : decode cX0_sweep 70 = .ok (.if_icmp .ne 14, 3) := by decide +kernel
theorem dX0_sweep_73 : decode cX0_sweep 73 = .ok (.iload 4, 2) := by decide +kernel
theorem dX0_sweep_75 : decode cX0_sweep 75 = .ok (.aload_n 0, 1) := by decide +kernel
theorem dX0_sweep_76 : decode cX0_sweep 76 = .ok (.getfield 19, 3) := by decide +kernel
theorem dX0_sweep_79 : decode cX0_sweep 79 = .ok (.iload_n 2, 1) := by decide +kernel
theorem dX0_sweep_80 : decode cX0_sweep 80 = .ok (.iaload, 1) := by decide +kernel
theorem dX0_sweep_81 : decode cX0_sweep 81 = .ok (.if_icmp .eq 20, 3) := by decide +kernel
theorem dX0_sweep_84 : decode cX0_sweep 84 = .ok (.aload_n 0, 1) := by decide +kernel
theorem dX0_sweep_85 : decode cX0_sweep 85 = .ok (.getfield 16, 3) := by decide +kernel
theorem dX0_sweep_88 : decode cX0_sweep 88 = .ok (.iload_n 2, 1) := by decide +kernel
theorem dX0_sweep_89 : decode cX0_sweep 89 = .ok (.iload_n 3, 1) := by decide +kernel
theorem dX0_sweep_90 : decode cX0_sweep 90 = .ok (.iastore, 1) := by decide +kernel
theorem dX0_sweep_91 : decode cX0_sweep 91 = .ok (.aload_n 0, 1) := by decide +kernel
theorem dX0_sweep_92 : decode cX0_sweep 92 = .ok (.getfield 19, 3) := by decide +kernel
theorem dX0_sweep_95 : decode cX0_sweep 95 = .ok (.iload_n 2, 1) := by decide +kernel
theorem dX0_sweep_96 : decode cX0_sweep 96 = .ok (.iload 4, 2) := by decide +kernel
theorem dX0_sweep_98 : decode cX0_sweep 98 = .ok (.iastore, 1) := by decide +kernel
theorem dX0_sweep_99 : decode cX0_sweep 99 = .ok (.iconst 1, 1) := by decide +kernel
theorem dX0_sweep_100 : decode cX0_sweep 100 = .ok (.istore_n 1, 1) := by decide +kernel
theorem dX0_sweep_101 : decode cX0_sweep 101 = .ok (.iinc 2 1, 3) := by decide +kernel
theorem dX0_sweep_104 : decode cX0_sweep 104 = .ok (.goto (-100), 3) := by decide +kernel
theorem dX0_sweep_107 : decode cX0_sweep 107 = .ok (.iload_n 1, 1) := by decide +kernel
theorem dX0_sweep_108 : decode cX0_sweep 108 = .ok (.ireturn, 1) := by decide +kernel
theorem dX0_lanesOf_0 : decode cX0_lanesOf 0 = .ok (.iload_n 1, 1) := by decide +kernel
theorem dX0_lanesOf_1 : decode cX0_lanesOf 1 = .ok (.iconst 1, 1) := by decide +kernel
theorem dX0_lanesOf_2 : decode cX0_lanesOf 2 = .ok (.iand, 1) := by decide +kernel
theorem dX0_lanesOf_3 : decode cX0_lanesOf 3 = .ok (.ifCond .ne 14, 3) := by decide +kernel
theorem dX0_lanesOf_6 : decode cX0_lanesOf 6 = .ok (.aload_n 0, 1) := by decide +kernel
theorem dX0_lanesOf_7 : decode cX0_lanesOf 7 = .ok (.getfield 16, 3) := by decide +kernel
theorem dX0_lanesOf_10 : decode cX0_lanesOf 10 = .ok (.iload_n 1, 1) := by decide +kernel
theorem dX0_lanesOf_11 : decode cX0_lanesOf 11 = .ok (.iconst 1, 1) := by decide +kernel
theorem dX0_lanesOf_12 : decode cX0_lanesOf 12 = .ok (.iushr, 1) := by decide +kernel
theorem dX0_lanesOf_13 : decode cX0_lanesOf 13 = .ok (.iaload, 1) := by decide +kernel
theorem dX0_lanesOf_14 : decode cX0_lanesOf 14 = .ok (.goto 11, 3) := by decide +kernel
theorem dX0_lanesOf_17 : decode cX0_lanesOf 17 = .ok (.aload_n 0, 1) := by decide +kernel
theorem dX0_lanesOf_18 : decode cX0_lanesOf 18 = .ok (.getfield 19, 3) := by decide +kernel
theorem dX0_lanesOf_21 : decode cX0_lanesOf 21 = .ok (.iload_n 1, 1) := by decide +kernel
theorem dX0_lanesOf_22 : decode cX0_lanesOf 22 = .ok (.iconst 1, 1) := by decide +kernel
theorem dX0_lanesOf_23 : decode cX0_lanesOf 23 = .ok (.iushr, 1) := by decide +kernel
theorem dX0_lanesOf_24 : decode cX0_lanesOf 24 = .ok (.iaload, 1) := by decide +kernel
theorem dX0_lanesOf_25 : decode cX0_lanesOf 25 = .ok (.ireturn, 1) := by decide +kernel
theorem dX0_stuckLanes_0 : decode cX0_stuckLanes 0 = .ok (.iconst 0, 1) := by decide +kernel
theorem dX0_stuckLanes_1 : decode cX0_stuckLanes 1 = .ok (.istore_n 1, 1) := by decide +kernel
theorem dX0_stuckLanes_2 : decode cX0_stuckLanes 2 = .ok (.iconst 0, 1) := by decide +kernel
theorem dX0_stuckLanes_3 : decode cX0_stuckLanes 3 = .ok (.istore_n 2, 1) := by decide +kernel
theorem dX0_stuckLanes_4 : decode cX0_stuckLanes 4 = .ok (.iload_n 2, 1) := by decide +kernel
theorem dX0_stuckLanes_5 : decode cX0_stuckLanes 5 = .ok (.aload_n 0, 1) := by decide +kernel
theorem dX0_stuckLanes_6 : decode cX0_stuckLanes 6 = .ok (.getfield 22, 3) := by decide +kernel
theorem dX0_stuckLanes_9 : decode cX0_stuckLanes 9 = .ok (.if_icmp .ge 27, 3) := by decide +kernel
theorem dX0_stuckLanes_12 : decode cX0_stuckLanes 12 = .ok (.iload_n 1, 1) := by decide +kernel
theorem dX0_stuckLanes_13 : decode cX0_stuckLanes 13 = .ok (.aload_n 0, 1) := by decide +kernel
theorem dX0_stuckLanes_14 : decode cX0_stuckLanes 14 = .ok (.getfield 16, 3) := by decide +kernel
theorem dX0_stuckLanes_17 : decode cX0_stuckLanes 17 = .ok (.iload_n 2, 1) := by decide +kernel
theorem dX0_stuckLanes_18 : decode cX0_stuckLanes 18 = .ok (.iaload, 1) := by decide +kernel
theorem dX0_stuckLanes_19 : decode cX0_stuckLanes 19 = .ok (.aload_n 0, 1) := by decide +kernel
theorem dX0_stuckLanes_20 : decode cX0_stuckLanes 20 = .ok (.getfield 19, 3) := by decide +kernel
theorem dX0_stuckLanes_23 : decode cX0_stuckLanes 23 = .ok (.iload_n 2, 1) := by decide +kernel
theorem dX0_stuckLanes_24 : decode cX0_stuckLanes 24 = .ok (.iaload, 1) := by decide +kernel
theorem dX0_stuckLanes_25 : decode cX0_stuckLanes 25 = .ok (.ior, 1) := by decide +kernel
theorem dX0_stuckLanes_26 : decode cX0_stuckLanes 26 = .ok (.iconst (-1), 1) := by decide +kernel
theorem dX0_stuckLanes_27 : decode cX0_stuckLanes 27 = .ok (.ixor, 1) := by decide +kernel
theorem dX0_stuckLanes_28 : decode cX0_stuckLanes 28 = .ok (.ior, 1) := by decide +kernel
theorem dX0_stuckLanes_29 : decode cX0_stuckLanes 29 = .ok (.istore_n 1, 1) := by decide +kernel
theorem dX0_stuckLanes_30 : decode cX0_stuckLanes 30 = .ok (.iinc 2 1, 3) := by decide +kernel
theorem dX0_stuckLanes_33 : decode cX0_stuckLanes 33 = .ok (.goto (-29), 3) := by decide +kernel
theorem dX0_stuckLanes_36 : decode cX0_stuckLanes 36 = .ok (.iload_n 1, 1) := by decide +kernel
theorem dX0_stuckLanes_37 : decode cX0_stuckLanes 37 = .ok (.ireturn, 1) := by decide +kernel
theorem dX0_isOn_0 : decode cX0_isOn 0 = .ok (.aload_n 0, 1) := by decide +kernel
theorem dX0_isOn_1 : decode cX0_isOn 1 = .ok (.iload_n 1, 1) := by decide +kernel
theorem dX0_isOn_2 : decode cX0_isOn 2 = .ok (.invokevirtual 126, 3) := by decide +kernel
theorem dX0_isOn_5 : decode cX0_isOn 5 = .ok (.iload_n 2, 1) := by decide +kernel
theorem dX0_isOn_6 : decode cX0_isOn 6 = .ok (.iushr, 1) := by decide +kernel
theorem dX0_isOn_7 : decode cX0_isOn 7 = .ok (.iconst 1, 1) := by decide +kernel
theorem dX0_isOn_8 : decode cX0_isOn 8 = .ok (.iand, 1) := by decide +kernel
theorem dX0_isOn_9 : decode cX0_isOn 9 = .ok (.ifCond .eq 7, 3) := by decide +kernel
theorem dX0_isOn_12 : decode cX0_isOn 12 = .ok (.iconst 1, 1) := by decide +kernel
theorem dX0_isOn_13 : decode cX0_isOn 13 = .ok (.goto 4, 3) := by decide +kernel
theorem dX0_isOn_16 : decode cX0_isOn 16 = .ok (.iconst 0, 1) := by decide +kernel
theorem dX0_isOn_17 : decode cX0_isOn 17 = .ok (.ireturn, 1) := by decide +kernel
theorem dX0_truth_0 : decode cX0_truth 0 = .ok (.aload_n 0, 1) := by decide +kernel
theorem dX0_truth_1 : decode cX0_truth 1 = .ok (.iload_n 1, 1) := by decide +kernel
theorem dX0_truth_2 : decode cX0_truth 2 = .ok (.iconst 0, 1) := by decide +kernel
theorem dX0_truth_3 : decode cX0_truth 3 = .ok (.invokevirtual 129, 3) := by decide +kernel
theorem dX0_truth_6 : decode cX0_truth 6 = .ok (.ifCond .eq 5, 3) := by decide +kernel
theorem dX0_truth_9 : decode cX0_truth 9 = .ok (.iconst 1, 1) := by decide +kernel
theorem dX0_truth_10 : decode cX0_truth 10 = .ok (.ireturn, 1) := by decide +kernel
theorem dX0_truth_11 : decode cX0_truth 11 = .ok (.aload_n 0, 1) := by decide +kernel
theorem dX0_truth_12 : decode cX0_truth 12 = .ok (.iload_n 1, 1) := by decide +kernel
theorem dX0_truth_13 : decode cX0_truth 13 = .ok (.invokestatic 72, 3) := by decide +kernel
theorem dX0_truth_16 : decode cX0_truth 16 = .ok (.iconst 0, 1) := by decide +kernel
theorem dX0_truth_17 : decode cX0_truth 17 = .ok (.invokevirtual 129, 3) := by decide +kernel
theorem dX0_truth_20 : decode cX0_truth 20 = .ok (.ifCond .eq 7, 3) := by decide +kernel
theorem dX0_truth_23 : decode cX0_truth 23 = .ok (.iconst 0, 1) := by decide +kernel
theorem dX0_truth_24 : decode cX0_truth 24 = .ok (.goto 4, 3) := by decide +kernel
theorem dX0_truth_27 : decode cX0_truth 27 = .ok (.iconst 2, 1) := by decide +kernel
theorem dX0_truth_28 : decode cX0_truth 28 = .ok (.ireturn, 1) := by decide +kernel
theorem dX0_shownIn_0 : decode cX0_shownIn 0 = .ok (.iconst 0, 1) := by decide +kernel
theorem dX0_shownIn_1 : decode cX0_shownIn 1 = .ok (.istore_n 2, 1) := by decide +kernel
theorem dX0_shownIn_2 : decode cX0_shownIn 2 = .ok (.iconst 0, 1) := by decide +kernel
theorem dX0_shownIn_3 : decode cX0_shownIn 3 = .ok (.istore_n 3, 1) := by decide +kernel
theorem dX0_shownIn_4 : decode cX0_shownIn 4 = .ok (.iload_n 3, 1) := by decide +kernel
theorem dX0_shownIn_5 : decode cX0_shownIn 5 = .ok (.aload_n 0, 1) := by decide +kernel
theorem dX0_shownIn_6 : decode cX0_shownIn 6 = .ok (.getfield 55, 3) := by decide +kernel
theorem dX0_shownIn_9 : decode cX0_shownIn 9 = .ok (.arraylength, 1) := by decide +kernel
theorem dX0_shownIn_10 : decode cX0_shownIn 10 = .ok (.if_icmp .ge 29, 3) := by decide +kernel
theorem dX0_shownIn_13 : decode cX0_shownIn 13 = .ok (.aload_n 0, 1) := by decide +kernel
theorem dX0_shownIn_14 : decode cX0_shownIn 14 = .ok (.aload_n 0, 1) := by decide +kernel
theorem dX0_shownIn_15 : decode cX0_shownIn 15 = .ok (.getfield 55, 3) := by decide +kernel
theorem dX0_shownIn_18 : decode cX0_shownIn 18 = .ok (.iload_n 3, 1) := by decide +kernel
theorem dX0_shownIn_19 : decode cX0_shownIn 19 = .ok (.iaload, 1) := by decide +kernel
theorem dX0_shownIn_20 : decode cX0_shownIn 20 = .ok (.iload_n 1, 1) := by decide +kernel
theorem dX0_shownIn_21 : decode cX0_shownIn 21 = .ok (.invokevirtual 129, 3) := by decide +kernel
theorem dX0_shownIn_24 : decode cX0_shownIn 24 = .ok (.ifCond .eq 9, 3) := by decide +kernel
theorem dX0_shownIn_27 : decode cX0_shownIn 27 = .ok (.iload_n 2, 1) := by decide +kernel
theorem dX0_shownIn_28 : decode cX0_shownIn 28 = .ok (.iconst 1, 1) := by decide +kernel
theorem dX0_shownIn_29 : decode cX0_shownIn 29 = .ok (.iload_n 3, 1) := by decide +kernel
theorem dX0_shownIn_30 : decode cX0_shownIn 30 = .ok (.ishl, 1) := by decide +kernel
theorem dX0_shownIn_31 : decode cX0_shownIn 31 = .ok (.ior, 1) := by decide +kernel
theorem dX0_shownIn_32 : decode cX0_shownIn 32 = .ok (.istore_n 2, 1) := by decide +kernel
theorem dX0_shownIn_33 : decode cX0_shownIn 33 = .ok (.iinc 3 1, 3) := by decide +kernel
theorem dX0_shownIn_36 : decode cX0_shownIn 36 = .ok (.goto (-32), 3) := by decide +kernel
theorem dX0_shownIn_39 : decode cX0_shownIn 39 = .ok (.iload_n 2, 1) := by decide +kernel
theorem dX0_shownIn_40 : decode cX0_shownIn 40 = .ok (.ireturn, 1) := by decide +kernel
theorem dX0_setBehind_0 : decode cX0_setBehind 0 = .ok (.iconst 0, 1) := by decide +kernel
theorem dX0_setBehind_1 : decode cX0_setBehind 1 = .ok (.istore_n 3, 1) := by decide +kernel
theorem dX0_setBehind_2 : decode cX0_setBehind 2 = .ok (.iconst 0, 1) := by decide +kernel
theorem dX0_setBehind_3 : decode cX0_setBehind 3 = .ok (.istore 4, 2) := by decide +kernel
theorem dX0_setBehind_5 : decode cX0_setBehind 5 = .ok (.iload 4, 2) := by decide +kernel
theorem dX0_setBehind_7 : decode cX0_setBehind 7 = .ok (.aload_n 0, 1) := by decide +kernel
theorem dX0_setBehind_8 : decode cX0_setBehind 8 = .ok (.getfield 95, 3) := by decide +kernel
theorem dX0_setBehind_11 : decode cX0_setBehind 11 = .ok (.if_icmp .ge 82, 3) := by decide +kernel
theorem dX0_setBehind_14 : decode cX0_setBehind 14 = .ok (.aload_n 0, 1) := by decide +kernel
theorem dX0_setBehind_15 : decode cX0_setBehind 15 = .ok (.aload_n 0, 1) := by decide +kernel
theorem dX0_setBehind_16 : decode cX0_setBehind 16 = .ok (.getfield 49, 3) := by decide +kernel
theorem dX0_setBehind_19 : decode cX0_setBehind 19 = .ok (.iload 4, 2) := by decide +kernel
theorem dX0_setBehind_21 : decode cX0_setBehind 21 = .ok (.iaload, 1) := by decide +kernel
theorem dX0_setBehind_22 : decode cX0_setBehind 22 = .ok (.iload_n 1, 1) := by decide +kernel
theorem dX0_setBehind_23 : decode cX0_setBehind 23 = .ok (.invokevirtual 129, 3) := by decide +kernel
theorem dX0_setBehind_26 : decode cX0_setBehind 26 = .ok (.ifCond .eq 16, 3) := by decide +kernel
theorem dX0_setBehind_29 : decode cX0_setBehind 29 = .ok (.iload_n 2, 1) := by decide +kernel
theorem dX0_setBehind_30 : decode cX0_setBehind 30 = .ok (.iload 4, 2) := by decide +kernel
theorem dX0_setBehind_32 : decode cX0_setBehind 32 = .ok (.iushr, 1) := by decide +kernel
theorem dX0_setBehind_33 : decode cX0_setBehind 33 = .ok (.iconst 1, 1) := by decide +kernel
theorem dX0_setBehind_34 : decode cX0_setBehind 34 = .ok (.iand, 1) := by decide +kernel
theorem dX0_setBehind_35 : decode cX0_setBehind 35 = .ok (.ifCond .eq 7, 3) := by decide +kernel
theorem dX0_setBehind_38 : decode cX0_setBehind 38 = .ok (.iconst 1, 1) := by decide +kernel
theorem dX0_setBehind_39 : decode cX0_setBehind 39 = .ok (.goto 4, 3) := by decide +kernel
theorem dX0_setBehind_42 : decode cX0_setBehind 42 = .ok (.iconst 0, 1) := by decide +kernel
theorem dX0_setBehind_43 : decode cX0_setBehind 43 = .ok (.istore 5, 2) := by decide +kernel
theorem dX0_setBehind_45 : decode cX0_setBehind 45 = .ok (.aload_n 0, 1) := by decide +kernel
theorem dX0_setBehind_46 : decode cX0_setBehind 46 = .ok (.aload_n 0, 1) := by decide +kernel
theorem dX0_setBehind_47 : decode cX0_setBehind 47 = .ok (.getfield 52, 3) := by decide +kernel
theorem dX0_setBehind_50 : decode cX0_setBehind 50 = .ok (.iload 4, 2) := by decide +kernel
theorem dX0_setBehind_52 : decode cX0_setBehind 52 = .ok (.iaload, 1) := by decide +kernel
theorem dX0_setBehind_53 : decode cX0_setBehind 53 = .ok (.iload_n 1, 1) := by decide +kernel
theorem dX0_setBehind_54 : decode cX0_setBehind 54 = .ok (.invokevirtual 129, 3) := by decide +kernel
theorem dX0_setBehind_57 : decode cX0_setBehind 57 = .ok (.ifCond .ne 30, 3) := by decide +kernel
theorem dX0_setBehind_60 : decode cX0_setBehind 60 = .ok (.aload_n 0, 1) := by decide +kernel
theorem dX0_setBehind_61 : decode cX0_setBehind 61 = .ok (.aload_n 0, 1) := by decide +kernel
theorem dX0_setBehind_62 : decode cX0_setBehind 62 = .ok (.getfield 46, 3) := by decide +kernel
theorem dX0_setBehind_65 : decode cX0_setBehind 65 = .ok (.iload 4, 2) := by decide +kernel
theorem dX0_setBehind_67 : decode cX0_setBehind 67 = .ok (.iaload, 1) := by decide +kernel
theorem dX0_setBehind_68 : decode cX0_setBehind 68 = .ok (.iload_n 1, 1) := by decide +kernel
theorem dX0_setBehind_69 : decode cX0_setBehind 69 = .ok (.invokevirtual 129, 3) := by decide +kernel
theorem dX0_setBehind_72 : decode cX0_setBehind 72 = .ok (.ifCond .ne 8, 3) := by decide +kernel
theorem dX0_setBehind_75 : decode cX0_setBehind 75 = .ok (.iload 5, 2) := by decide +kernel
theorem dX0_setBehind_77 : decode cX0_setBehind 77 = .ok (.ifCond .eq 10, 3) := by decide +kernel
theorem dX0_setBehind_80 : decode cX0_setBehind 80 = .ok (.iload_n 3, 1) := by decide +kernel
theorem dX0_setBehind_81 : decode cX0_setBehind 81 = .ok (.iconst 1, 1) := by decide +kernel
theorem dX0_setBehind_82 : decode cX0_setBehind 82 = .ok (.iload 4, 2) := by decide +kernel
theorem dX0_setBehind_84 : decode cX0_setBehind 84 = .ok (.ishl, 1) := by decide +kernel
theorem dX0_setBehind_85 : decode cX0_setBehind 85 = .ok (.ior, 1) := by decide +kernel
theorem dX0_setBehind_86 : decode cX0_setBehind 86 = .ok (.istore_n 3, 1) := by decide +kernel
theorem dX0_setBehind_87 : decode cX0_setBehind 87 = .ok (.iinc 4 1, 3) := by decide +kernel
theorem dX0_setBehind_90 : decode cX0_setBehind 90 = .ok (.goto (-85), 3) := by decide +kernel
theorem dX0_setBehind_93 : decode cX0_setBehind 93 = .ok (.iload_n 3, 1) := by decide +kernel
theorem dX0_setBehind_94 : decode cX0_setBehind 94 = .ok (.ireturn, 1) := by decide +kernel
