theorem dX4_init_0 : decode cX4_init 0 = .ok (.aload_n 0, 1) := by decide +kernel
theorem dX4_init_1 : decode cX4_init 1 = .ok (.invokespecial 3, 3) := by decide +kernel
theorem dX4_init_4 : decode cX4_init 4 = .ok (.aload_n 0, 1) := by decide +kernel
theorem dX4_init_5 : decode cX4_init 5 = .ok (.new 9, 3) := by decide +kernel
theorem dX4_init_8 : decode cX4_init 8 = .ok (.dup, 1) := by decide +kernel
theorem dX4_init_9 : decode cX4_init 9 = .ok (.aload_n 1, 1) := by decide +kernel
theorem dX4_init_10 : decode cX4_init 10 = .ok (.invokespecial 11, 3) := by decide +kernel
theorem dX4_init_13 : decode cX4_init 13 = .ok (.putfield 14, 3) := by decide +kernel
theorem dX4_init_16 : decode cX4_init 16 = .ok (.aload_n 0, 1) := by decide +kernel
theorem dX4_init_17 : decode cX4_init 17 = .ok (.aload_n 2, 1) := by decide +kernel
theorem dX4_init_18 : decode cX4_init 18 = .ok (.putfield 20, 3) := by decide +kernel
theorem dX4_init_21 : decode cX4_init 21 = .ok (.aload_n 0, 1) := by decide +kernel
theorem dX4_init_22 : decode cX4_init 22 = .ok (.bipush 16, 2) := by decide +kernel
theorem dX4_init_24 : decode cX4_init 24 = .ok (.newarray .long, 2) := by decide +kernel
theorem dX4_init_26 : decode cX4_init 26 = .ok (.putfield 24, 3) := by decide +kernel
theorem dX4_init_29 : decode cX4_init 29 = .ok (.return_, 1) := by decide +kernel
theorem dX4_read_0 : decode cX4_read 0 = .ok (.aload_n 0, 1) := by decide +kernel
theorem dX4_read_1 : decode cX4_read 1 = .ok (.new 28, 3) := by decide +kernel
theorem dX4_read_4 : decode cX4_read 4 = .ok (.dup, 1) := by decide +kernel
theorem dX4_read_5 : decode cX4_read 5 = .ok (.invokespecial 30, 3) := by decide +kernel
theorem dX4_read_8 : decode cX4_read 8 = .ok (.putfield 31, 3) := by decide +kernel
theorem dX4_read_11 : decode cX4_read 11 = .ok (.aload_n 0, 1) := by decide +kernel
theorem dX4_read_12 : decode cX4_read 12 = .ok (.iconst 0, 1) := by decide +kernel
theorem dX4_read_13 : decode cX4_read 13 = .ok (.putfield 35, 3) := by decide +kernel
theorem dX4_read_16 : decode cX4_read 16 = .ok (.aload_n 0, 1) := by decide +kernel
theorem dX4_read_17 : decode cX4_read 17 = .ok (.iconst 0, 1) := by decide +kernel
theorem dX4_read_18 : decode cX4_read 18 = .ok (.putfield 39, 3) := by decide +kernel
theorem dX4_read_21 : decode cX4_read 21 = .ok (.aload_n 0, 1) := by decide +kernel
theorem dX4_read_22 : decode cX4_read 22 = .ok (.iconst 0, 1) := by decide +kernel
theorem dX4_read_23 : decode cX4_read 23 = .ok (.putfield 42, 3) := by decide +kernel
theorem dX4_read_26 : decode cX4_read 26 = .ok (.aload_n 0, 1) := by decide +kernel
theorem dX4_read_27 : decode cX4_read 27 = .ok (.iconst 0, 1) := by decide +kernel
theorem dX4_read_28 : decode cX4_read 28 = .ok (.putfield 45, 3) := by decide +kernel
theorem dX4_read_31 : decode cX4_read 31 = .ok (.aload_n 0, 1) := by decide +kernel
theorem dX4_read_32 : decode cX4_read 32 = .ok (.getfield 20, 3) := by decide +kernel
theorem dX4_read_35 : decode cX4_read 35 = .ok (.invokevirtual 48, 3) := by decide +kernel
theorem dX4_read_38 : decode cX4_read 38 = .ok (.aload_n 0, 1) := by decide +kernel
theorem dX4_read_39 : decode cX4_read 39 = .ok (.getfield 14, 3) := by decide +kernel
theorem dX4_read_42 : decode cX4_read 42 = .ok (.iload_n 1, 1) := by decide +kernel
theorem dX4_read_43 : decode cX4_read 43 = .ok (.invokevirtual 53, 3) := by decide +kernel
theorem dX4_read_46 : decode cX4_read 46 = .ok (.aload_n 0, 1) := by decide +kernel
theorem dX4_read_47 : decode cX4_read 47 = .ok (.invokevirtual 56, 3) := by decide +kernel
theorem dX4_read_50 : decode cX4_read 50 = .ok (.aload_n 0, 1) := by decide +kernel
theorem dX4_read_51 : decode cX4_read 51 = .ok (.getfield 31, 3) := by decide +kernel
theorem dX4_read_54 : decode cX4_read 54 = .ok (.aload_n 0, 1) := by decide +kernel
theorem dX4_read_55 : decode cX4_read 55 = .ok (.iconst 0, 1) := by decide +kernel
theorem dX4_read_56 : decode cX4_read 56 = .ok (.invokevirtual 59, 3) := by decide +kernel
theorem dX4_read_59 : decode cX4_read 59 = .ok (.putfield 63, 3) := by decide +kernel
theorem dX4_read_62 : decode cX4_read 62 = .ok (.aload_n 0, 1) := by decide +kernel
theorem dX4_read_63 : decode cX4_read 63 = .ok (.getfield 14, 3) := by decide +kernel
theorem dX4_read_66 : decode cX4_read 66 = .ok (.getfield 66, 3) := by decide +kernel
theorem dX4_read_69 : decode cX4_read 69 = .ok (.iconst 1, 1) := by decide +kernel
theorem dX4_read_70 : decode cX4_read 70 = .ok (.if_icmp .eq 11, 3) := by decide +kernel
theorem dX4_read_73 : decode cX4_read 73 = .ok (.aload_n 0, 1) := by decide +kernel
theorem dX4_read_74 : decode cX4_read 74 = .ok (.getfield 14, 3) := by decide +kernel
theorem dX4_read_77 : decode cX4_read 77 = .ok (.iconst 2, 1) := by decide +kernel
theorem dX4_read_78 : decode cX4_read 78 = .ok (.invokevirtual 69, 3) := by decide +kernel
theorem dX4_read_81 : decode cX4_read 81 = .ok (.aload_n 0, 1) := by decide +kernel
theorem dX4_read_82 : decode cX4_read 82 = .ok (.invokevirtual 72, 3) := by decide +kernel
theorem dX4_read_85 : decode cX4_read 85 = .ok (.aload_n 0, 1) := by decide +kernel
theorem dX4_read_86 : decode cX4_read 86 = .ok (.getfield 31, 3) := by decide +kernel
theorem dX4_read_89 : decode cX4_read 89 = .ok (.aload_n 0, 1) := by decide +kernel
theorem dX4_read_90 : decode cX4_read 90 = .ok (.getfield 20, 3) := by decide +kernel
theorem dX4_read_93 : decode cX4_read 93 = .ok (.getfield 75, 3) := by decide +kernel
theorem dX4_read_96 : decode cX4_read 96 = .ok (.putfield 78, 3) := by decide +kernel
theorem dX4_read_99 : decode cX4_read 99 = .ok (.aload_n 0, 1) := by decide +kernel
theorem dX4_read_100 : decode cX4_read 100 = .ok (.getfield 14, 3) := by decide +kernel
theorem dX4_read_103 : decode cX4_read 103 = .ok (.getfield 79, 3) := by decide +kernel
theorem dX4_read_106 : decode cX4_read 106 = .ok (.ifCond .ne 10, 3) := by decide +kernel
theorem dX4_read_109 : decode cX4_read 109 = .ok (.aload_n 0, 1) := by decide +kernel
theorem dX4_read_110 : decode cX4_read 110 = .ok (.getfield 31, 3) := by decide +kernel
theorem dX4_read_113 : decode cX4_read 113 = .ok (.goto 4, 3) := by decide +kernel
theorem dX4_read_116 : decode cX4_read 116 = .ok (.aconst_null, 1) := by decide +kernel
theorem dX4_read_117 : decode cX4_read 117 = .ok (.areturn, 1) := by decide +kernel
theorem dX4_findLateFault_0 : decode cX4_findLateFault 0 = .ok (.iconst 0, 1) := by decide +kernel
theorem dX4_findLateFault_1 : decode cX4_findLateFault 1 = .ok (.istore_n 1, 1) := by decide +kernel
theorem dX4_findLateFault_2 : decode cX4_findLateFault 2 = .ok (.iload_n 1, 1) := by decide +kernel
theorem dX4_findLateFault_3 : decode cX4_findLateFault 3 = .ok (.aload_n 0, 1) := by decide +kernel
theorem dX4_findLateFault_4 : decode cX4_findLateFault 4 = .ok (.getfield 31, 3) := by decide +kernel
theorem dX4_findLateFault_7 : decode cX4_findLateFault 7 = .ok (.getfield 82, 3) := by decide +kernel
theorem dX4_findLateFault_10 : decode cX4_findLateFault 10 = .ok (.invokevirtual 86, 3) := by decide +kernel
theorem dX4_findLateFault_13 : decode cX4_findLateFault 13 = .ok (.if_icmp .ge 56, 3) := by decide +kernel
theorem dX4_findLateFault_16 : decode cX4_findLateFault 16 = .ok (.aload_n 0, 1) := by decide +kernel
theorem dX4_findLateFault_17 : decode cX4_findLateFault 17 = .ok (.getfield 14, 3) := by decide +kernel
theorem dX4_findLateFault_20 : decode cX4_findLateFault 20 = .ok (.getfield 79, 3) := by decide +kernel
theorem dX4_findLateFault_23 : decode cX4_findLateFault 23 = .ok (.ifCond .ne 46, 3) := by decide +kernel
theorem dX4_findLateFault_26 : decode cX4_findLateFault 26 = .ok (.aload_n 0, 1) := by decide +kernel
theorem dX4_findLateFault_27 : decode cX4_findLateFault 27 = .ok (.getfield 31, 3) := by decide +kernel
theorem dX4_findLateFault_30 : decode cX4_findLateFault 30 = .ok (.getfield 82, 3) := by decide +kernel
theorem dX4_findLateFault_33 : decode cX4_findLateFault 33 = .ok (.iload_n 1, 1) := by decide +kernel
theorem dX4_findLateFault_34 : decode cX4_findLateFault 34 = .ok (.invokevirtual 92, 3) := by decide +kernel
theorem dX4_findLateFault_37 : decode cX4_findLateFault 37 = .ok (.checkcast 96, 3) := by decide +kernel
theorem dX4_findLateFault_40 : decode cX4_findLateFault 40 = .ok (.astore_n 2, 1) := by decide +kernel
theorem dX4_findLateFault_41 : decode cX4_findLateFault 41 = .ok (.aload_n 2, 1) := by decide +kernel
theorem dX4_findLateFault_42 : decode cX4_findLateFault 42 = .ok (.getfield 98, 3) := by decide +kernel
theorem dX4_findLateFault_45 : decode cX4_findLateFault 45 = .ok (.ifCond .eq 18, 3) := by decide +kernel
theorem dX4_findLateFault_48 : decode cX4_findLateFault 48 = .ok (.aload_n 0, 1) := by decide +kernel
theorem dX4_findLateFault_49 : decode cX4_findLateFault 49 = .ok (.getfield 14, 3) := by decide +kernel
theorem dX4_findLateFault_52 : decode cX4_findLateFault 52 = .ok (.aload_n 2, 1) := by decide +kernel
theorem dX4_findLateFault_53 : decode cX4_findLateFault 53 = .ok (.getfield 98, 3) := by decide +kernel
theorem dX4_findLateFault_56 : decode cX4_findLateFault 56 = .ok (.aload_n 2, 1) := by decide +kernel
theorem dX4_findLateFault_57 : decode cX4_findLateFault 57 = .ok (.getfield 101, 3) := by decide +kernel
theorem dX4_findLateFault_60 : decode cX4_findLateFault 60 = .ok (.invokevirtual 104, 3) := by decide +kernel
theorem dX4_findLateFault_63 : decode cX4_findLateFault 63 = .ok (.iinc 1 1, 3) := by decide +kernel
theorem dX4_findLateFault_66 : decode cX4_findLateFault 66 = .ok (.goto (-64), 3) := by decide +kernel
theorem dX4_findLateFault_69 : decode cX4_findLateFault 69 = .ok (.return_, 1) := by decide +kernel
theorem dX4_readAllTold_0 : decode cX4_readAllTold 0 = .ok (.iconst 0, 1) := by decide +kernel
theorem dX4_readAllTold_1 : decode cX4_readAllTold 1 = .ok (.istore_n 1, 1) := by decide +kernel
theorem dX4_readAllTold_2 : decode cX4_readAllTold 2 = .ok (.iload_n 1, 1) := by decide +kernel
theorem dX4_readAllTold_3 : decode cX4_readAllTold 3 = .ok (.sipush 800, 3) := by decide +kernel
theorem dX4_readAllTold_6 : decode cX4_readAllTold 6 = .ok (.if_icmp .ge 66, 3) := by decide +kernel
theorem dX4_readAllTold_9 : decode cX4_readAllTold 9 = .ok (.aload_n 0, 1) := by decide +kernel
theorem dX4_readAllTold_10 : decode cX4_readAllTold 10 = .ok (.getfield 14, 3) := by decide +kernel
theorem dX4_readAllTold_13 : decode cX4_readAllTold 13 = .ok (.getfield 66, 3) := by decide +kernel
theorem dX4_readAllTold_16 : decode cX4_readAllTold 16 = .ok (.istore_n 2, 1) := by decide +kernel
theorem dX4_readAllTold_17 : decode cX4_readAllTold 17 = .ok (.iload_n 2, 1) := by decide +kernel
theorem dX4_readAllTold_18 : decode cX4_readAllTold 18 = .ok (.bipush 36, 2) := by decide +kernel
theorem dX4_readAllTold_20 : decode cX4_readAllTold 20 = .ok (.if_icmp .ne 10, 3) := by decide +kernel
theorem dX4_readAllTold_23 : decode cX4_readAllTold 23 = .ok (.aload_n 0, 1) := by decide +kernel
theorem dX4_readAllTold_24 : decode cX4_readAllTold 24 = .ok (.invokevirtual 108, 3) := by decide +kernel
theorem dX4_readAllTold_27 : decode cX4_readAllTold 27 = .ok (.goto 30, 3) := by decide +kernel
theorem dX4_readAllTold_30 : decode cX4_readAllTold 30 = .ok (.iload_n 2, 1) := by decide +kernel
theorem dX4_readAllTold_31 : decode cX4_readAllTold 31 = .ok (.bipush 30, 2) := by decide +kernel
theorem dX4_readAllTold_33 : decode cX4_readAllTold 33 = .ok (.if_icmp .eq 15, 3) := by decide +kernel
theorem dX4_readAllTold_36 : decode cX4_readAllTold 36 = .ok (.iload_n 2, 1) := by decide +kernel
theorem dX4_readAllTold_37 : decode cX4_readAllTold 37 = .ok (.bipush 31, 2) := by decide +kernel
theorem dX4_readAllTold_39 : decode cX4_readAllTold 39 = .ok (.if_icmp .eq 9, 3) := by decide +kernel
theorem dX4_readAllTold_42 : decode cX4_readAllTold 42 = .ok (.iload_n 2, 1) := by decide +kernel
theorem dX4_readAllTold_43 : decode cX4_readAllTold 43 = .ok (.bipush 32, 2) := by decide +kernel
theorem dX4_readAllTold_45 : decode cX4_readAllTold 45 = .ok (.if_icmp .ne 11, 3) := by decide +kernel
theorem dX4_readAllTold_48 : decode cX4_readAllTold 48 = .ok (.aload_n 0, 1) := by decide +kernel
theorem dX4_readAllTold_49 : decode cX4_readAllTold 49 = .ok (.iload_n 2, 1) := by decide +kernel
theorem dX4_readAllTold_50 : decode cX4_readAllTold 50 = .ok (.invokevirtual 111, 3) := by decide +kernel
theorem dX4_readAllTold_53 : decode cX4_readAllTold 53 = .ok (.goto 4, 3) := by decide +kernel
theorem dX4_readAllTold_56 : decode cX4_readAllTold 56 = .ok (.return_, 1) := by decide +kernel
theorem dX4_readAllTold_57 : decode cX4_readAllTold 57 = .ok (.aload_n 0, 1) := by decide +kernel
theorem dX4_readAllTold_58 : decode cX4_readAllTold 58 = .ok (.getfield 14, 3) := by decide +kernel
theorem dX4_readAllTold_61 : decode cX4_readAllTold 61 = .ok (.bipush 13, 2) := by decide +kernel
theorem dX4_readAllTold_63 : decode cX4_readAllTold 63 = .ok (.invokevirtual 114, 3) := by decide +kernel
theorem dX4_readAllTold_66 : decode cX4_readAllTold 66 = .ok (.iinc 1 1, 3) := by decide +kernel
theorem dX4_readAllTold_69 : decode cX4_readAllTold 69 = .ok (.goto (-67), 3) := by decide +kernel
theorem dX4_readAllTold_72 : decode cX4_readAllTold 72 = .ok (.return_, 1) := by decide +kernel
theorem dX4_readSignal_0 : decode cX4_readSignal 0 = .ok (.aload_n 0, 1) := by decide +kernel
theorem dX4_readSignal_1 : decode cX4_readSignal 1 = .ok (.getfield 14, 3) := by decide +kernel
theorem dX4_readSignal_4 : decode cX4_readSignal 4 = .ok (.invokevirtual 117, 3) := by decide +kernel
theorem dX4_readSignal_7 : decode cX4_readSignal 7 = .ok (.aload_n 0, 1) := by decide +kernel
theorem dX4_readSignal_8 : decode cX4_readSignal 8 = .ok (.iload_n 1, 1) := by decide +kernel
theorem dX4_readSignal_9 : decode cX4_readSignal 9 = .ok (.invokevirtual 120, 3) := by decide +kernel
theorem dX4_readSignal_12 : decode cX4_readSignal 12 = .ok (.aload_n 0, 1) := by decide +kernel
theorem dX4_readSignal_13 : decode cX4_readSignal 13 = .ok (.getfield 14, 3) := by decide +kernel
theorem dX4_readSignal_16 : decode cX4_readSignal 16 = .ok (.getfield 66, 3) := by decide +kernel
theorem dX4_readSignal_19 : decode cX4_readSignal 19 = .ok (.iconst 2, 1) := by decide +kernel
theorem dX4_readSignal_20 : decode cX4_readSignal 20 = .ok (.if_icmp .eq 4, 3) := by decide +kernel
theorem dX4_readSignal_23 : decode cX4_readSignal 23 = .ok (.return_, 1) := by decide +kernel
theorem dX4_readSignal_24 : decode cX4_readSignal 24 = .ok (.aload_n 0, 1) := by decide +kernel
theorem dX4_readSignal_25 : decode cX4_readSignal 25 = .ok (.getfield 31, 3) := by decide +kernel
theorem dX4_readSignal_28 : decode cX4_readSignal 28 = .ok (.getfield 123, 3) := by decide +kernel
theorem dX4_readSignal_31 : decode cX4_readSignal 31 = .ok (.istore_n 2, 1) := by decide +kernel
theorem dX4_readSignal_32 : decode cX4_readSignal 32 = .ok (.aload_n 0, 1) := by decide +kernel
theorem dX4_readSignal_33 : decode cX4_readSignal 33 = .ok (.getfield 31, 3) := by decide +kernel
theorem dX4_readSignal_36 : decode cX4_readSignal 36 = .ok (.aload_n 0, 1) := by decide +kernel
theorem dX4_readSignal_37 : decode cX4_readSignal 37 = .ok (.getfield 14, 3) := by decide +kernel
theorem dX4_readSignal_40 : decode cX4_readSignal 40 = .ok (.getfield 126, 3) := by decide +kernel
theorem dX4_readSignal_43 : decode cX4_readSignal 43 = .ok (.iload_n 1, 1) := by decide +kernel
theorem dX4_readSignal_44 : decode cX4_readSignal 44 = .ok (.invokevirtual 130, 3) := by decide +kernel
theorem dX4_readSignal_47 : decode cX4_readSignal 47 = .ok (.aload_n 0, 1) := by decide +kernel
theorem dX4_readSignal_48 : decode cX4_readSignal 48 = .ok (.getfield 14, 3) := by decide +kernel
theorem dX4_readSignal_51 : decode cX4_readSignal 51 = .ok (.invokevirtual 117, 3) := by decide +kernel
theorem dX4_readSignal_54 : decode cX4_readSignal 54 = .ok (.aload_n 0, 1) := by decide +kernel
theorem dX4_readSignal_55 : decode cX4_readSignal 55 = .ok (.getfield 14, 3) := by decide +kernel
theorem dX4_readSignal_58 : decode cX4_readSignal 58 = .ok (.iconst 4, 1) := by decide +kernel
theorem dX4_readSignal_59 : decode cX4_readSignal 59 = .ok (.invokevirtual 134, 3) := by decide +kernel
theorem dX4_readSignal_62 : decode cX4_readSignal 62 = .ok (.ifCond .eq 57, 3) := by decide +kernel
theorem dX4_readSignal_65 : decode cX4_readSignal 65 = .ok (.aload_n 0, 1) := by decide +kernel
theorem dX4_readSignal_66 : decode cX4_readSignal 66 = .ok (.getfield 14, 3) := by decide +kernel
theorem dX4_readSignal_69 : decode cX4_readSignal 69 = .ok (.getfield 66, 3) := by decide +kernel
theorem dX4_readSignal_72 : decode cX4_readSignal 72 = .ok (.istore_n 3, 1) := by decide +kernel
theorem dX4_readSignal_73 : decode cX4_readSignal 73 = .ok (.iload_n 3, 1) := by decide +kernel
theorem dX4_readSignal_74 : decode cX4_readSignal 74 = .ok (.bipush 33, 2) := by decide +kernel
theorem dX4_readSignal_76 : decode cX4_readSignal 76 = .ok (.if_icmp .eq 15, 3) := by decide +kernel
theorem dX4_readSignal_79 : decode cX4_readSignal 79 = .ok (.iload_n 3, 1) := by decide +kernel
theorem dX4_readSignal_80 : decode cX4_readSignal 80 = .ok (.bipush 34, 2) := by decide +kernel
theorem dX4_readSignal_82 : decode cX4_readSignal 82 = .ok (.if_icmp .eq 9, 3) := by decide +kernel
theorem dX4_readSignal_85 : decode cX4_readSignal 85 = .ok (.iload_n 3, 1) := by decide +kernel
theorem dX4_readSignal_86 : decode cX4_readSignal 86 = .ok (.bipush 35, 2) := by decide +kernel
theorem dX4_readSignal_88 : decode cX4_readSignal 88 = .ok (.if_icmp .ne 23, 3) := by decide +kernel
theorem dX4_readSignal_91 : decode cX4_readSignal 91 = .ok (.aload_n 0, 1) := by decide +kernel
theorem dX4_readSignal_92 : decode cX4_readSignal 92 = .ok (.getfield 31, 3) := by decide +kernel
theorem dX4_readSignal_95 : decode cX4_readSignal 95 = .ok (.getfield 138, 3) := by decide +kernel
theorem dX4_readSignal_98 : decode cX4_readSignal 98 = .ok (.iload_n 2, 1) := by decide +kernel
theorem dX4_readSignal_99 : decode cX4_readSignal 99 = .ok (.iload_n 3, 1) := by decide +kernel
theorem dX4_readSignal_100 : decode cX4_readSignal 100 = .ok (.iastore, 1) := by decide +kernel
theorem dX4_readSignal_101 : decode cX4_readSignal 101 = .ok (.aload_n 0, 1) := by decide +kernel
theorem dX4_readSignal_102 : decode cX4_readSignal 102 = .ok (.getfield 14, 3) := by decide +kernel
theorem dX4_readSignal_105 : decode cX4_readSignal 105 = .ok (.invokevirtual 117, 3) := by decide +kernel
theorem dX4_readSignal_108 : decode cX4_readSignal 108 = .ok (.goto 11, 3) := by decide +kernel
theorem dX4_readSignal_111 : decode cX4_readSignal 111 = .ok (.aload_n 0, 1) := by decide +kernel
theorem dX4_readSignal_112 : decode cX4_readSignal 112 = .ok (.getfield 14, 3) := by decide +kernel
theorem dX4_readSignal_115 : decode cX4_readSignal 115 = .ok (.iconst 2, 1) := by decide +kernel
theorem dX4_readSignal_116 : decode cX4_readSignal 116 = .ok (.invokevirtual 69, 3) := by decide +kernel
theorem dX4_readSignal_119 : decode cX4_readSignal 119 = .ok (.return_, 1) := by decide +kernel
theorem dX4_readVariable_0 : decode cX4_readVariable 0 = .ok (.aload_n 0, 1) := by decide +kernel
theorem dX4_readVariable_1 : decode cX4_readVariable 1 = .ok (.getfield 14, 3) := by decide +kernel
theorem dX4_readVariable_4 : decode cX4_readVariable 4 = .ok (.invokevirtual 117, 3) := by decide +kernel
theorem dX4_readVariable_7 : decode cX4_readVariable 7 = .ok (.aload_n 0, 1) := by decide +kernel
theorem dX4_readVariable_8 : decode cX4_readVariable 8 = .ok (.bipush 36, 2) := by decide +kernel
theorem dX4_readVariable_10 : decode cX4_readVariable 10 = .ok (.invokevirtual 120, 3) := by decide +kernel
theorem dX4_readVariable_13 : decode cX4_readVariable 13 = .ok (.aload_n 0, 1) := by decide +kernel
theorem dX4_readVariable_14 : decode cX4_readVariable 14 = .ok (.getfield 14, 3) := by decide +kernel
theorem dX4_readVariable_17 : decode cX4_readVariable 17 = .ok (.getfield 66, 3) := by decide +kernel
theorem dX4_readVariable_20 : decode cX4_readVariable 20 = .ok (.iconst 2, 1) := by decide +kernel
theorem dX4_readVariable_21 : decode cX4_readVariable 21 = .ok (.if_icmp .eq 4, 3) := by decide +kernel
theorem dX4_readVariable_24 : decode cX4_readVariable 24 = .ok (.return_, 1) := by decide +kernel
theorem dX4_readVariable_25 : decode cX4_readVariable 25 = .ok (.aload_n 0, 1) := by decide +kernel
theorem dX4_readVariable_26 : decode cX4_readVariable 26 = .ok (.getfield 31, 3) := by decide +kernel
theorem dX4_readVariable_29 : decode cX4_readVariable 29 = .ok (.getfield 142, 3) := by decide +kernel
theorem dX4_readVariable_32 : decode cX4_readVariable 32 = .ok (.istore_n 1, 1) := by decide +kernel
theorem dX4_readVariable_33 : decode cX4_readVariable 33 = .ok (.aload_n 0, 1) := by decide +kernel
theorem dX4_readVariable_34 : decode cX4_readVariable 34 = .ok (.getfield 31, 3) := by decide +kernel
theorem dX4_readVariable_37 : decode cX4_readVariable 37 = .ok (.aload_n 0, 1) := by decide +kernel
theorem dX4_readVariable_38 : decode cX4_readVariable 38 = .ok (.getfield 14, 3) := by decide +kernel
theorem dX4_readVariable_41 : decode cX4_readVariable 41 = .ok (.getfield 126, 3) := by decide +kernel
theorem dX4_readVariable_44 : decode cX4_readVariable 44 = .ok (.invokevirtual 145, 3) := by decide +kernel
theorem dX4_readVariable_47 : decode cX4_readVariable 47 = .ok (.aload_n 0, 1) := by decide +kernel
theorem dX4_readVariable_48 : decode cX4_readVariable 48 = .ok (.getfield 14, 3) := by decide +kernel
theorem dX4_readVariable_51 : decode cX4_readVariable 51 = .ok (.invokevirtual 117, 3) := by decide +kernel
theorem dX4_readVariable_54 : decode cX4_readVariable 54 = .ok (.aload_n 0, 1) := by decide +kernel
theorem dX4_readVariable_55 : decode cX4_readVariable 55 = .ok (.getfield 14, 3) := by decide +kernel
theorem dX4_readVariable_58 : decode cX4_readVariable 58 = .ok (.iconst 5, 1) := by decide +kernel
theorem dX4_readVariable_59 : decode cX4_readVariable 59 = .ok (.invokevirtual 114, 3) := by decide +kernel
theorem dX4_readVariable_62 : decode cX4_readVariable 62 = .ok (.aload_n 0, 1) := by decide +kernel
theorem dX4_readVariable_63 : decode cX4_readVariable 63 = .ok (.getfield 14, 3) := by decide +kernel
theorem dX4_readVariable_66 : decode cX4_readVariable 66 = .ok (.bipush 21, 2) := by decide +kernel
theorem dX4_readVariable_68 : decode cX4_readVariable 68 = .ok (.invokevirtual 134, 3) := by decide +kernel
theorem dX4_readVariable_71 : decode cX4_readVariable 71 = .ok (.istore_n 2, 1) := by decide +kernel
theorem dX4_readVariable_72 : decode cX4_readVariable 72 = .ok (.aload_n 0, 1) := by decide +kernel
theorem dX4_readVariable_73 : decode cX4_readVariable 73 = .ok (.getfield 14, 3) := by decide +kernel
theorem dX4_readVariable_76 : decode cX4_readVariable 76 = .ok (.getfield 66, 3) := by decide +kernel
theorem dX4_readVariable_79 : decode cX4_readVariable 79 = .ok (.iconst 3, 1) := by decide +kernel
theorem dX4_readVariable_80 : decode cX4_readVariable 80 = .ok (.if_icmp .ne 35, 3) := by decide +kernel
theorem dX4_readVariable_83 : decode cX4_readVariable 83 = .ok (.aload_n 0, 1) := by decide +kernel
theorem dX4_readVariable_84 : decode cX4_readVariable 84 = .ok (.getfield 31, 3) := by decide +kernel
theorem dX4_readVariable_87 : decode cX4_readVariable 87 = .ok (.getfield 149, 3) := by decide +kernel
theorem dX4_readVariable_90 : decode cX4_readVariable 90 = .ok (.iload_n 1, 1) := by decide +kernel
theorem dX4_readVariable_91 : decode cX4_readVariable 91 = .ok (.iload_n 2, 1) := by decide +kernel
theorem dX4_readVariable_92 : decode cX4_readVariable 92 = .ok (.ifCond .eq 14, 3) := by decide +kernel
theorem dX4_readVariable_95 : decode cX4_readVariable 95 = .ok (.aload_n 0, 1) := by decide +kernel
theorem dX4_readVariable_96 : decode cX4_readVariable 96 = .ok (.getfield 14, 3) := by decide +kernel
theorem dX4_readVariable_99 : decode cX4_readVariable 99 = .ok (.getfield 126, 3) := by decide +kernel
theorem dX4_readVariable_102 : decode cX4_readVariable 102 = .ok (.lneg, 1) := by decide +kernel
theorem dX4_readVariable_103 : decode cX4_readVariable 103 = .ok (.goto 10, 3) := by decide +kernel
theorem dX4_readVariable_106 : decode cX4_readVariable 106 = .ok (.aload_n 0, 1) := by decide +kernel
theorem dX4_readVariable_107 : decode cX4_readVariable 107 = .ok (.getfield 14, 3) := by decide +kernel
theorem dX4_readVariable_110 : decode cX4_readVariable 110 = .ok (.getfield 126, 3) := by decide +kernel
theorem dX4_readVariable_113 : decode cX4_readVariable 113 = .ok (.l2i, 1) := by decide +kernel
theorem dX4_readVariable_114 : decode cX4_readVariable 114 = .ok (.iastore, 1) := by decide +kernel
theorem dX4_readVariable_115 : decode cX4_readVariable 115 = .ok (.aload_n 0, 1) := by decide +kernel
theorem dX4_readVariable_116 : decode cX4_readVariable 116 = .ok (.getfield 14, 3) := by decide +kernel
theorem dX4_readVariable_119 : decode cX4_readVariable 119 = .ok (.iconst 3, 1) := by decide +kernel
theorem dX4_readVariable_120 : decode cX4_readVariable 120 = .ok (.invokevirtual 114, 3) := by decide +kernel
theorem dX4_readVariable_123 : decode cX4_readVariable 123 = .ok (.return_, 1) := by decide +kernel
theorem dX4_checkNewName_0 : decode cX4_checkNewName 0 = .ok (.aload_n 0, 1) := by decide +kernel
theorem dX4_checkNewName_1 : decode cX4_checkNewName 1 = .ok (.getfield 14, 3) := by decide +kernel
theorem dX4_checkNewName_4 : decode cX4_checkNewName 4 = .ok (.getfield 66, 3) := by decide +kernel
theorem dX4_checkNewName_7 : decode cX4_checkNewName 7 = .ok (.iconst 2, 1) := by decide +kernel
theorem dX4_checkNewName_8 : decode cX4_checkNewName 8 = .ok (.if_icmp .eq 14, 3) := by decide +kernel
theorem dX4_checkNewName_11 : decode cX4_checkNewName 11 = .ok (.aload_n 0, 1) := by decide +kernel
theorem dX4_checkNewName_12 : decode cX4_checkNewName 12 = .ok (.getfield 14, 3) := by decide +kernel
theorem dX4_checkNewName_15 : decode cX4_checkNewName 15 = .ok (.iconst 2, 1) := by decide +kernel
theorem dX4_checkNewName_16 : decode cX4_checkNewName 16 = .ok (.invokevirtual 69, 3) := by decide +kernel
theorem dX4_checkNewName_19 : decode cX4_checkNewName 19 = .ok (.goto 51, 3) := by decide +kernel
theorem dX4_checkNewName_22 : decode cX4_checkNewName 22 = .ok (.aload_n 0, 1) := by decide +kernel
theorem dX4_checkNewName_23 : decode cX4_checkNewName 23 = .ok (.getfield 31, 3) := by decide +kernel
theorem dX4_checkNewName_26 : decode cX4_checkNewName 26 = .ok (.aload_n 0, 1) := by decide +kernel
theorem dX4_checkNewName_27 : decode cX4_checkNewName 27 = .ok (.getfield 14, 3) := by decide +kernel
theorem dX4_checkNewName_30 : decode cX4_checkNewName 30 = .ok (.getfield 126, 3) := by decide +kernel
theorem dX4_checkNewName_33 : decode cX4_checkNewName 33 = .ok (.invokevirtual 152, 3) := by decide +kernel
theorem dX4_checkNewName_36 : decode cX4_checkNewName 36 = .ok (.ifCond .eq 14, 3) := by decide +kernel
theorem dX4_checkNewName_39 : decode cX4_checkNewName 39 = .ok (.aload_n 0, 1) := by decide +kernel
theorem dX4_checkNewName_40 : decode cX4_checkNewName 40 = .ok (.getfield 14, 3) := by decide +kernel
theorem dX4_checkNewName_43 : decode cX4_checkNewName 43 = .ok (.iconst 3, 1) := by decide +kernel
theorem dX4_checkNewName_44 : decode cX4_checkNewName 44 = .ok (.invokevirtual 69, 3) := by decide +kernel
theorem dX4_checkNewName_47 : decode cX4_checkNewName 47 = .ok (.goto 23, 3) := by decide +kernel
theorem dX4_checkNewName_50 : decode cX4_checkNewName 50 = .ok (.aload_n 0, 1) := by decide +kernel
theorem dX4_checkNewName_51 : decode cX4_checkNewName 51 = .ok (.getfield 31, 3) := by decide +kernel
theorem dX4_checkNewName_54 : decode cX4_checkNewName 54 = .ok (.iload_n 1, 1) := by decide +kernel
theorem dX4_checkNewName_55 : decode cX4_checkNewName 55 = .ok (.invokevirtual 156, 3) := by decide +kernel
theorem dX4_checkNewName_58 : decode cX4_checkNewName 58 = .ok (.ifCond .eq 12, 3) := by decide +kernel
theorem dX4_checkNewName_61 : decode cX4_checkNewName 61 = .ok (.aload_n 0, 1) := by decide +kernel
theorem dX4_checkNewName_62 : decode cX4_checkNewName 62 = .ok (.getfield 14, 3) := by decide +kernel
theorem dX4_checkNewName_65 : decode cX4_checkNewName 65 = .ok (.bipush 6, 2) := by decide +kernel
theorem dX4_checkNewName_67 : decode cX4_checkNewName 67 = .ok (.invokevirtual 69, 3) := by decide +kernel
theorem dX4_checkNewName_70 : decode cX4_checkNewName 70 = .ok (.return_, 1) := by decide +kernel
theorem dX4_readSeq_0 : decode cX4_readSeq 0 = .ok (.aload_n 0, 1) := by decide +kernel
theorem dX4_readSeq_1 : decode cX4_readSeq 1 = .ok (.getfield 20, 3) := by decide +kernel
theorem dX4_readSeq_4 : decode cX4_readSeq 4 = .ok (.iconst 5, 1) := by decide +kernel
theorem dX4_readSeq_5 : decode cX4_readSeq 5 = .ok (.invokevirtual 159, 3) := by decide +kernel
theorem dX4_readSeq_8 : decode cX4_readSeq 8 = .ok (.istore_n 2, 1) := by decide +kernel
theorem dX4_readSeq_9 : decode cX4_readSeq 9 = .ok (.aload_n 0, 1) := by decide +kernel
theorem dX4_readSeq_10 : decode cX4_readSeq 10 = .ok (.getfield 20, 3) := by decide +kernel
theorem dX4_readSeq_13 : decode cX4_readSeq 13 = .ok (.iload_n 2, 1) := by decide +kernel
theorem dX4_readSeq_14 : decode cX4_readSeq 14 = .ok (.aload_n 0, 1) := by decide +kernel
theorem dX4_readSeq_15 : decode cX4_readSeq 15 = .ok (.iload_n 1, 1) := by decide +kernel
theorem dX4_readSeq_16 : decode cX4_readSeq 16 = .ok (.iconst 1, 1) := by decide +kernel
theorem dX4_readSeq_17 : decode cX4_readSeq 17 = .ok (.iadd, 1) := by decide +kernel
theorem dX4_readSeq_18 : decode cX4_readSeq 18 = .ok (.invokevirtual 162, 3) := by decide +kernel
theorem dX4_readSeq_21 : decode cX4_readSeq 21 = .ok (.invokevirtual 165, 3) := by decide +kernel
theorem dX4_readSeq_24 : decode cX4_readSeq 24 = .ok (.iconst 0, 1) := by decide +kernel
theorem dX4_readSeq_25 : decode cX4_readSeq 25 = .ok (.istore_n 3, 1) := by decide +kernel
theorem dX4_readSeq_26 : decode cX4_readSeq 26 = .ok (.iload_n 3, 1) := by decide +kernel
theorem dX4_readSeq_27 : decode cX4_readSeq 27 = .ok (.bipush 40, 2) := by decide +kernel
theorem dX4_readSeq_29 : decode cX4_readSeq 29 = .ok (.if_icmp .ge 36, 3) := by decide +kernel
theorem dX4_readSeq_32 : decode cX4_readSeq 32 = .ok (.aload_n 0, 1) := by decide +kernel
theorem dX4_readSeq_33 : decode cX4_readSeq 33 = .ok (.getfield 14, 3) := by decide +kernel
theorem dX4_readSeq_36 : decode cX4_readSeq 36 = .ok (.bipush 13, 2) := by decide +kernel
theorem dX4_readSeq_38 : decode cX4_readSeq 38 = .ok (.invokevirtual 134, 3) := by decide +kernel
theorem dX4_readSeq_41 : decode cX4_readSeq 41 = .ok (.ifCond .eq 24, 3) := by decide +kernel
theorem dX4_readSeq_44 : decode cX4_readSeq 44 = .ok (.aload_n 0, 1) := by decide +kernel
theorem dX4_readSeq_45 : decode cX4_readSeq 45 = .ok (.getfield 20, 3) := by decide +kernel
theorem dX4_readSeq_48 : decode cX4_readSeq 48 = .ok (.iload_n 2, 1) := by decide +kernel
theorem dX4_readSeq_49 : decode cX4_readSeq 49 = .ok (.aload_n 0, 1) := by decide +kernel
theorem dX4_readSeq_50 : decode cX4_readSeq 50 = .ok (.iload_n 1, 1) := by decide +kernel
theorem dX4_readSeq_51 : decode cX4_readSeq 51 = .ok (.iconst 1, 1) := by decide +kernel
theorem dX4_readSeq_52 : decode cX4_readSeq 52 = .ok (.iadd, 1) := by decide +kernel
theorem dX4_readSeq_53 : decode cX4_readSeq 53 = .ok (.invokevirtual 162, 3) := by decide +kernel
theorem dX4_readSeq_56 : decode cX4_readSeq 56 = .ok (.invokevirtual 165, 3) := by decide +kernel
theorem dX4_readSeq_59 : decode cX4_readSeq 59 = .ok (.iinc 3 1, 3) := by decide +kernel
theorem dX4_readSeq_62 : decode cX4_readSeq 62 = .ok (.goto (-36), 3) := by decide +kernel
theorem dX4_readSeq_65 : decode cX4_readSeq 65 = .ok (.iload_n 2, 1) := by decide +kernel
theorem dX4_readSeq_66 : decode cX4_readSeq 66 = .ok (.ireturn, 1) := by decide +kernel
theorem dX4_readPart_0 : decode cX4_readPart 0 = .ok (.aload_n 0, 1) := by decide +kernel
theorem dX4_readPart_1 : decode cX4_readPart 1 = .ok (.getfield 14, 3) := by decide +kernel
theorem dX4_readPart_4 : decode cX4_readPart 4 = .ok (.getfield 66, 3) := by decide +kernel
theorem dX4_readPart_7 : decode cX4_readPart 7 = .ok (.istore_n 2, 1) := by decide +kernel
theorem dX4_readPart_8 : decode cX4_readPart 8 = .ok (.aload_n 0, 1) := by decide +kernel
theorem dX4_readPart_9 : decode cX4_readPart 9 = .ok (.iload_n 2, 1) := by decide +kernel
theorem dX4_readPart_10 : decode cX4_readPart 10 = .ok (.invokevirtual 168, 3) := by decide +kernel
theorem dX4_readPart_13 : decode cX4_readPart 13 = .ok (.aload_n 0, 1) := by decide +kernel
theorem dX4_readPart_14 : decode cX4_readPart 14 = .ok (.getfield 14, 3) := by decide +kernel
theorem dX4_readPart_17 : decode cX4_readPart 17 = .ok (.getfield 79, 3) := by decide +kernel
theorem dX4_readPart_20 : decode cX4_readPart 20 = .ok (.ifCond .eq 5, 3) := by decide +kernel
theorem dX4_readPart_23 : decode cX4_readPart 23 = .ok (.iconst 0, 1) := by decide +kernel
theorem dX4_readPart_24 : decode cX4_readPart 24 = .ok (.ireturn, 1) := by decide +kernel
theorem dX4_readPart_25 : decode cX4_readPart 25 = .ok (.new 96, 3) := by decide +kernel
theorem dX4_readPart_28 : decode cX4_readPart 28 = .ok (.dup, 1) := by decide +kernel
theorem dX4_readPart_29 : decode cX4_readPart 29 = .ok (.aload_n 0, 1) := by decide +kernel
theorem dX4_readPart_30 : decode cX4_readPart 30 = .ok (.getfield 14, 3) := by decide +kernel
theorem dX4_readPart_33 : decode cX4_readPart 33 = .ok (.getfield 171, 3) := by decide +kernel
theorem dX4_readPart_36 : decode cX4_readPart 36 = .ok (.invokespecial 172, 3) := by decide +kernel
theorem dX4_readPart_39 : decode cX4_readPart 39 = .ok (.astore_n 3, 1) := by decide +kernel
theorem dX4_readPart_40 : decode cX4_readPart 40 = .ok (.aload_n 0, 1) := by decide +kernel
theorem dX4_readPart_41 : decode cX4_readPart 41 = .ok (.getfield 31, 3) := by decide +kernel
theorem dX4_readPart_44 : decode cX4_readPart 44 = .ok (.getfield 82, 3) := by decide +kernel
theorem dX4_readPart_47 : decode cX4_readPart 47 = .ok (.aload_n 3, 1) := by decide +kernel
theorem dX4_readPart_48 : decode cX4_readPart 48 = .ok (.invokevirtual 174, 3) := by decide +kernel
theorem dX4_readPart_51 : decode cX4_readPart 51 = .ok (.pop, 1) := by decide +kernel
theorem dX4_readPart_52 : decode cX4_readPart 52 = .ok (.aload_n 0, 1) := by decide +kernel
theorem dX4_readPart_53 : decode cX4_readPart 53 = .ok (.getfield 31, 3) := by decide +kernel
theorem dX4_readPart_56 : decode cX4_readPart 56 = .ok (.aload_n 0, 1) := by decide +kernel
theorem dX4_readPart_57 : decode cX4_readPart 57 = .ok (.getfield 31, 3) := by decide +kernel
theorem dX4_readPart_60 : decode cX4_readPart 60 = .ok (.getfield 178, 3) := by decide +kernel
theorem dX4_readPart_63 : decode cX4_readPart 63 = .ok (.iload_n 1, 1) := by decide +kernel
theorem dX4_readPart_64 : decode cX4_readPart 64 = .ok (.invokestatic 181, 3) := by decide +kernel
theorem dX4_readPart_67 : decode cX4_readPart 67 = .ok (.putfield 178, 3) := by decide +kernel
theorem dX4_readPart_70 : decode cX4_readPart 70 = .ok (.aload_n 0, 1) := by decide +kernel
theorem dX4_readPart_71 : decode cX4_readPart 71 = .ok (.dup, 1) := by decide +kernel
theorem dX4_readPart_72 : decode cX4_readPart 72 = .ok (.getfield 39, 3) := by decide +kernel
theorem dX4_readPart_75 : decode cX4_readPart 75 = .ok (.iload_n 2, 1) := by decide +kernel
theorem dX4_readPart_76 : decode cX4_readPart 76 = .ok (.invokestatic 187, 3) := by decide +kernel
theorem dX4_readPart_79 : decode cX4_readPart 79 = .ok (.iadd, 1) := by decide +kernel
theorem dX4_readPart_80 : decode cX4_readPart 80 = .ok (.putfield 39, 3) := by decide +kernel
theorem dX4_readPart_83 : decode cX4_readPart 83 = .ok (.iload_n 2, 1) := by decide +kernel
theorem dX4_readPart_84 : decode cX4_readPart 84 = .ok (.invokestatic 190, 3) := by decide +kernel
theorem dX4_readPart_87 : decode cX4_readPart 87 = .ok (.ifCond .eq 10, 3) := by decide +kernel
theorem dX4_readPart_90 : decode cX4_readPart 90 = .ok (.aload_n 0, 1) := by decide +kernel
theorem dX4_readPart_91 : decode cX4_readPart 91 = .ok (.getfield 14, 3) := by decide +kernel
theorem dX4_readPart_94 : decode cX4_readPart 94 = .ok (.invokevirtual 193, 3) := by decide +kernel
theorem dX4_readPart_97 : decode cX4_readPart 97 = .ok (.aload_n 0, 1) := by decide +kernel
theorem dX4_readPart_98 : decode cX4_readPart 98 = .ok (.getfield 14, 3) := by decide +kernel
theorem dX4_readPart_101 : decode cX4_readPart 101 = .ok (.getfield 126, 3) := by decide +kernel
theorem dX4_readPart_104 : decode cX4_readPart 104 = .ok (.lstore 4, 2) := by decide +kernel
theorem dX4_readPart_106 : decode cX4_readPart 106 = .ok (.aload_n 0, 1) := by decide +kernel
theorem dX4_readPart_107 : decode cX4_readPart 107 = .ok (.getfield 14, 3) := by decide +kernel
theorem dX4_readPart_110 : decode cX4_readPart 110 = .ok (.invokevirtual 117, 3) := by decide +kernel
theorem dX4_readPart_113 : decode cX4_readPart 113 = .ok (.aload_n 3, 1) := by decide +kernel
theorem dX4_readPart_114 : decode cX4_readPart 114 = .ok (.iload_n 2, 1) := by decide +kernel
theorem dX4_readPart_115 : decode cX4_readPart 115 = .ok (.iconst 2, 1) := by decide +kernel
theorem dX4_readPart_116 : decode cX4_readPart 116 = .ok (.if_icmp .ne 13, 3) := by decide +kernel
theorem dX4_readPart_119 : decode cX4_readPart 119 = .ok (.aload_n 0, 1) := by decide +kernel
theorem dX4_readPart_120 : decode cX4_readPart 120 = .ok (.aload_n 3, 1) := by decide +kernel
theorem dX4_readPart_121 : decode cX4_readPart 121 = .ok (.lload 4, 2) := by decide +kernel
theorem dX4_readPart_123 : decode cX4_readPart 123 = .ok (.invokevirtual 196, 3) := by decide +kernel
theorem dX4_readPart_126 : decode cX4_readPart 126 = .ok (.goto 10, 3) := by decide +kernel
theorem dX4_readPart_129 : decode cX4_readPart 129 = .ok (.aload_n 0, 1) := by decide +kernel
theorem dX4_readPart_130 : decode cX4_readPart 130 = .ok (.iload_n 2, 1) := by decide +kernel
theorem dX4_readPart_131 : decode cX4_readPart 131 = .ok (.aload_n 3, 1) := by decide +kernel
theorem dX4_readPart_132 : decode cX4_readPart 132 = .ok (.iload_n 1, 1) := by decide +kernel
theorem dX4_readPart_133 : decode cX4_readPart 133 = .ok (.invokevirtual 200, 3) := by decide +kernel
theorem dX4_readPart_136 : decode cX4_readPart 136 = .ok (.putfield 204, 3) := by decide +kernel
theorem dX4_readPart_139 : decode cX4_readPart 139 = .ok (.iload_n 2, 1) := by decide +kernel
theorem dX4_readPart_140 : decode cX4_readPart 140 = .ok (.invokestatic 190, 3) := by decide +kernel
theorem dX4_readPart_143 : decode cX4_readPart 143 = .ok (.ifCond .eq 10, 3) := by decide +kernel
theorem dX4_readPart_146 : decode cX4_readPart 146 = .ok (.aload_n 0, 1) := by decide +kernel
theorem dX4_readPart_147 : decode cX4_readPart 147 = .ok (.getfield 14, 3) := by decide +kernel
theorem dX4_readPart_150 : decode cX4_readPart 150 = .ok (.invokevirtual 207, 3) := by decide +kernel
theorem dX4_readPart_153 : decode cX4_readPart 153 = .ok (.aload_n 3, 1) := by decide +kernel
theorem dX4_readPart_154 : decode cX4_readPart 154 = .ok (.getfield 204, 3) := by decide +kernel
theorem dX4_readPart_157 : decode cX4_readPart 157 = .ok (.ireturn, 1) := by decide +kernel
theorem dX4_checkBegin_0 : decode cX4_checkBegin 0 = .ok (.iload_n 1, 1) := by decide +kernel
theorem dX4_checkBegin_1 : decode cX4_checkBegin 1 = .ok (.iconst 2, 1) := by decide +kernel
theorem dX4_checkBegin_2 : decode cX4_checkBegin 2 = .ok (.if_icmp .ne 32, 3) := by decide +kernel
theorem dX4_checkBegin_5 : decode cX4_checkBegin 5 = .ok (.aload_n 0, 1) := by decide +kernel
theorem dX4_checkBegin_6 : decode cX4_checkBegin 6 = .ok (.getfield 31, 3) := by decide +kernel
theorem dX4_checkBegin_9 : decode cX4_checkBegin 9 = .ok (.aload_n 0, 1) := by decide +kernel
theorem dX4_checkBegin_10 : decode cX4_checkBegin 10 = .ok (.getfield 14, 3) := by decide +kernel
theorem dX4_checkBegin_13 : decode cX4_checkBegin 13 = .ok (.getfield 126, 3) := by decide +kernel
theorem dX4_checkBegin_16 : decode cX4_checkBegin 16 = .ok (.invokevirtual 210, 3) := by decide +kernel
theorem dX4_checkBegin_19 : decode cX4_checkBegin 19 = .ok (.iconst (-1), 1) := by decide +kernel
theorem dX4_checkBegin_20 : decode cX4_checkBegin 20 = .ok (.if_icmp .ne 36, 3) := by decide +kernel
theorem dX4_checkBegin_23 : decode cX4_checkBegin 23 = .ok (.aload_n 0, 1) := by decide +kernel
theorem dX4_checkBegin_24 : decode cX4_checkBegin 24 = .ok (.getfield 14, 3) := by decide +kernel
theorem dX4_checkBegin_27 : decode cX4_checkBegin 27 = .ok (.iconst 4, 1) := by decide +kernel
theorem dX4_checkBegin_28 : decode cX4_checkBegin 28 = .ok (.invokevirtual 69, 3) := by decide +kernel
theorem dX4_checkBegin_31 : decode cX4_checkBegin 31 = .ok (.goto 25, 3) := by decide +kernel
theorem dX4_checkBegin_34 : decode cX4_checkBegin 34 = .ok (.iload_n 1, 1) := by decide +kernel
theorem dX4_checkBegin_35 : decode cX4_checkBegin 35 = .ok (.invokestatic 190, 3) := by decide +kernel
theorem dX4_checkBegin_38 : decode cX4_checkBegin 38 = .ok (.ifCond .ne 18, 3) := by decide +kernel
theorem dX4_checkBegin_41 : decode cX4_checkBegin 41 = .ok (.iload_n 1, 1) := by decide +kernel
theorem dX4_checkBegin_42 : decode cX4_checkBegin 42 = .ok (.invokestatic 214, 3) := by decide +kernel
theorem dX4_checkBegin_45 : decode cX4_checkBegin 45 = .ok (.ifCond .ne 11, 3) := by decide +kernel
theorem dX4_checkBegin_48 : decode cX4_checkBegin 48 = .ok (.aload_n 0, 1) := by decide +kernel
theorem dX4_checkBegin_49 : decode cX4_checkBegin 49 = .ok (.getfield 14, 3) := by decide +kernel
theorem dX4_checkBegin_52 : decode cX4_checkBegin 52 = .ok (.iconst 2, 1) := by decide +kernel
theorem dX4_checkBegin_53 : decode cX4_checkBegin 53 = .ok (.invokevirtual 69, 3) := by decide +kernel
theorem dX4_checkBegin_56 : decode cX4_checkBegin 56 = .ok (.aload_n 0, 1) := by decide +kernel
theorem dX4_checkBegin_57 : decode cX4_checkBegin 57 = .ok (.getfield 31, 3) := by decide +kernel
theorem dX4_checkBegin_60 : decode cX4_checkBegin 60 = .ok (.getfield 82, 3) := by decide +kernel
theorem dX4_checkBegin_63 : decode cX4_checkBegin 63 = .ok (.invokevirtual 86, 3) := by decide +kernel
theorem dX4_checkBegin_66 : decode cX4_checkBegin 66 = .ok (.bipush 40, 2) := by decide +kernel
theorem dX4_checkBegin_68 : decode cX4_checkBegin 68 = .ok (.if_icmp .ge 17, 3) := by decide +kernel
theorem dX4_checkBegin_71 : decode cX4_checkBegin 71 = .ok (.aload_n 0, 1) := by decide +kernel
theorem dX4_checkBegin_72 : decode cX4_checkBegin 72 = .ok (.getfield 39, 3) := by decide +kernel
theorem dX4_checkBegin_75 : decode cX4_checkBegin 75 = .ok (.iload_n 1, 1) := by decide +kernel
theorem dX4_checkBegin_76 : decode cX4_checkBegin 76 = .ok (.invokestatic 187, 3) := by decide +kernel
theorem dX4_checkBegin_79 : decode cX4_checkBegin 79 = .ok (.iadd, 1) := by decide +kernel
theorem dX4_checkBegin_80 : decode cX4_checkBegin 80 = .ok (.bipush 24, 2) := by decide +kernel
theorem dX4_checkBegin_82 : decode cX4_checkBegin 82 = .ok (.if_icmp .le 12, 3) := by decide +kernel
theorem dX4_checkBegin_85 : decode cX4_checkBegin 85 = .ok (.aload_n 0, 1) := by decide +kernel
theorem dX4_checkBegin_86 : decode cX4_checkBegin 86 = .ok (.getfield 14, 3) := by decide +kernel
theorem dX4_checkBegin_89 : decode cX4_checkBegin 89 = .ok (.bipush 6, 2) := by decide +kernel
theorem dX4_checkBegin_91 : decode cX4_checkBegin 91 = .ok (.invokevirtual 69, 3) := by decide +kernel
theorem dX4_checkBegin_94 : decode cX4_checkBegin 94 = .ok (.return_, 1) := by decide +kernel
theorem dX4_standsAlone_0 : decode cX4_standsAlone 0 = .ok (.iload_n 0, 1) := by decide +kernel
theorem dX4_standsAlone_1 : decode cX4_standsAlone 1 = .ok (.bipush 37, 2) := by decide +kernel
theorem dX4_standsAlone_3 : decode cX4_standsAlone 3 = .ok (.if_icmp .lt 9, 3) := by decide +kernel
theorem dX4_standsAlone_6 : decode cX4_standsAlone 6 = .ok (.iload_n 0, 1) := by decide +kernel
theorem dX4_standsAlone_7 : decode cX4_standsAlone 7 = .ok (.bipush 41, 2) := by decide +kernel
theorem dX4_standsAlone_9 : decode cX4_standsAlone 9 = .ok (.if_icmp .le 15, 3) := by decide +kernel
theorem dX4_standsAlone_12 : decode cX4_standsAlone 12 = .ok (.iload_n 0, 1) := by decide +kernel
theorem dX4_standsAlone_13 : decode cX4_standsAlone 13 = .ok (.bipush 47, 2) := by decide +kernel
theorem dX4_standsAlone_15 : decode cX4_standsAlone 15 = .ok (.if_icmp .eq 9, 3) := by decide +kernel
theorem dX4_standsAlone_18 : decode cX4_standsAlone 18 = .ok (.iload_n 0, 1) := by decide +kernel
theorem dX4_standsAlone_19 : decode cX4_standsAlone 19 = .ok (.bipush 57, 2) := by decide +kernel
theorem dX4_standsAlone_21 : decode cX4_standsAlone 21 = .ok (.if_icmp .ne 7, 3) := by decide +kernel
theorem dX4_standsAlone_24 : decode cX4_standsAlone 24 = .ok (.iconst 1, 1) := by decide +kernel
theorem dX4_standsAlone_25 : decode cX4_standsAlone 25 = .ok (.goto 4, 3) := by decide +kernel
theorem dX4_standsAlone_28 : decode cX4_standsAlone 28 = .ok (.iconst 0, 1) := by decide +kernel
theorem dX4_standsAlone_29 : decode cX4_standsAlone 29 = .ok (.ireturn, 1) := by decide +kernel
theorem dX4_staysOpen_0 : decode cX4_staysOpen 0 = .ok (.iload_n 0, 1) := by decide +kernel
theorem dX4_staysOpen_1 : decode cX4_staysOpen 1 = .ok (.lookupswitch 85 #[(17, 83), (42, 83), (44, 83), (49, 83), (50, 83), (52, 83), (53, 83), (55, 83), (58, 83)], 83) := by decide +kernel
theorem dX4_staysOpen_84 : decode cX4_staysOpen 84 = .ok (.iconst 1, 1) := by decide +kernel
theorem dX4_staysOpen_85 : decode cX4_staysOpen 85 = .ok (.ireturn, 1) := by decide +kernel
theorem dX4_staysOpen_86 : decode cX4_staysOpen 86 = .ok (.iconst 0, 1) := by decide +kernel
theorem dX4_staysOpen_87 : decode cX4_staysOpen 87 = .ok (.ireturn, 1) := by decide +kernel
theorem dX4_pausesOf_0 : decode cX4_pausesOf 0 = .ok (.iload_n 0, 1) := by decide +kernel
theorem dX4_pausesOf_1 : decode cX4_pausesOf 1 = .ok (.tableswitch 83 38 53 #[79, 79, 83, 79, 83, 83, 83, 83, 83, 79, 83, 79, 79, 83, 83, 81], 79) := by decide +kernel
theorem dX4_pausesOf_80 : decode cX4_pausesOf 80 = .ok (.iconst 1, 1) := by decide +kernel
theorem dX4_pausesOf_81 : decode cX4_pausesOf 81 = .ok (.ireturn, 1) := by decide +kernel
theorem dX4_pausesOf_82 : decode cX4_pausesOf 82 = .ok (.iconst 3, 1) := by decide +kernel
theorem dX4_pausesOf_83 : decode cX4_pausesOf 83 = .ok (.ireturn, 1) := by decide +kernel
theorem dX4_pausesOf_84 : decode cX4_pausesOf 84 = .ok (.iconst 0, 1) := by decide +kernel
theorem dX4_pausesOf_85 : decode cX4_pausesOf 85 = .ok (.ireturn, 1) := by decide +kernel
theorem dX4_readBody_0 : decode cX4_readBody 0 = .ok (.iload_n 1, 1) := by decide +kernel
theorem dX4_readBody_1 : decode cX4_readBody 1 = .ok (.tableswitch 305 17 58 #[298, 305, 305, 305, 305, 305, 305, 305, 305, 305, 305, 305, 305, 305, 305, 305, 305, 305, 305, 305, 305, 183, 191, 199, 205, 210, 305, 217, 305, 305, 227, 305, 252, 258, 305, 264, 270, 305, 276, 305, 282, 287], 183) := by decide +kernel
theorem dX4_readBody_184 : decode cX4_readBody 184 = .ok (.aload_n 0, 1) := by decide +kernel
theorem dX4_readBody_185 : decode cX4_readBody 185 = .ok (.getfield 20, 3) := by decide +kernel
theorem dX4_readBody_188 : decode cX4_readBody 188 = .ok (.invokevirtual 217, 3) := by decide +kernel
theorem dX4_readBody_191 : decode cX4_readBody 191 = .ok (.ireturn, 1) := by decide +kernel
theorem dX4_readBody_192 : decode cX4_readBody 192 = .ok (.aload_n 0, 1) := by decide +kernel
theorem dX4_readBody_193 : decode cX4_readBody 193 = .ok (.getfield 20, 3) := by decide +kernel
theorem dX4_readBody_196 : decode cX4_readBody 196 = .ok (.invokevirtual 220, 3) := by decide +kernel
theorem dX4_readBody_199 : decode cX4_readBody 199 = .ok (.ireturn, 1) := by decide +kernel
theorem dX4_readBody_200 : decode cX4_readBody 200 = .ok (.aload_n 0, 1) := by decide +kernel
theorem dX4_readBody_201 : decode cX4_readBody 201 = .ok (.aload_n 2, 1) := by decide +kernel
theorem dX4_readBody_202 : decode cX4_readBody 202 = .ok (.invokevirtual 223, 3) := by decide +kernel
theorem dX4_readBody_205 : decode cX4_readBody 205 = .ok (.ireturn, 1) := by decide +kernel
theorem dX4_readBody_206 : decode cX4_readBody 206 = .ok (.aload_n 0, 1) := by decide +kernel
theorem dX4_readBody_207 : decode cX4_readBody 207 = .ok (.invokevirtual 227, 3) := by decide +kernel
theorem dX4_readBody_210 : decode cX4_readBody 210 = .ok (.ireturn, 1) := by decide +kernel
theorem dX4_readBody_211 : decode cX4_readBody 211 = .ok (.aload_n 0, 1) := by decide +kernel
theorem dX4_readBody_212 : decode cX4_readBody 212 = .ok (.aload_n 2, 1) := by decide +kernel
theorem dX4_readBody_213 : decode cX4_readBody 213 = .ok (.iload_n 3, 1) := by decide +kernel
theorem dX4_readBody_214 : decode cX4_readBody 214 = .ok (.invokevirtual 230, 3) := by decide +kernel
theorem dX4_readBody_217 : decode cX4_readBody 217 = .ok (.ireturn, 1) := by decide +kernel
theorem dX4_readBody_218 : decode cX4_readBody 218 = .ok (.aload_n 0, 1) := by decide +kernel
theorem dX4_readBody_219 : decode cX4_readBody 219 = .ok (.aload_n 0, 1) := by decide +kernel
theorem dX4_readBody_220 : decode cX4_readBody 220 = .ok (.invokevirtual 234, 3) := by decide +kernel
theorem dX4_readBody_223 : decode cX4_readBody 223 = .ok (.iload_n 3, 1) := by decide +kernel
theorem dX4_readBody_224 : decode cX4_readBody 224 = .ok (.invokevirtual 237, 3) := by decide +kernel
theorem dX4_readBody_227 : decode cX4_readBody 227 = .ok (.ireturn, 1) := by decide +kernel
theorem dX4_readBody_228 : decode cX4_readBody 228 = .ok (.aload_n 0, 1) := by decide +kernel
theorem dX4_readBody_229 : decode cX4_readBody 229 = .ok (.getfield 14, 3) := by decide +kernel
theorem dX4_readBody_232 : decode cX4_readBody 232 = .ok (.bipush 48, 2) := by decide +kernel
theorem dX4_readBody_234 : decode cX4_readBody 234 = .ok (.invokevirtual 134, 3) := by decide +kernel
theorem dX4_readBody_237 : decode cX4_readBody 237 = .ok (.istore 4, 2) := by decide +kernel
theorem dX4_readBody_239 : decode cX4_readBody 239 = .ok (.aload_n 0, 1) := by decide +kernel
theorem dX4_readBody_240 : decode cX4_readBody 240 = .ok (.getfield 20, 3) := by decide +kernel
theorem dX4_readBody_243 : decode cX4_readBody 243 = .ok (.aload_n 0, 1) := by decide +kernel
theorem dX4_readBody_244 : decode cX4_readBody 244 = .ok (.invokevirtual 234, 3) := by decide +kernel
theorem dX4_readBody_247 : decode cX4_readBody 247 = .ok (.iload 4, 2) := by decide +kernel
theorem dX4_readBody_249 : decode cX4_readBody 249 = .ok (.invokevirtual 240, 3) := by decide +kernel
theorem dX4_readBody_252 : decode cX4_readBody 252 = .ok (.ireturn, 1) := by decide +kernel
theorem dX4_readBody_253 : decode cX4_readBody 253 = .ok (.aload_n 0, 1) := by decide +kernel
theorem dX4_readBody_254 : decode cX4_readBody 254 = .ok (.iload_n 3, 1) := by decide +kernel
theorem dX4_readBody_255 : decode cX4_readBody 255 = .ok (.invokevirtual 244, 3) := by decide +kernel
theorem dX4_readBody_258 : decode cX4_readBody 258 = .ok (.ireturn, 1) := by decide +kernel
theorem dX4_readBody_259 : decode cX4_readBody 259 = .ok (.aload_n 0, 1) := by decide +kernel
theorem dX4_readBody_260 : decode cX4_readBody 260 = .ok (.iload_n 3, 1) := by decide +kernel
theorem dX4_readBody_261 : decode cX4_readBody 261 = .ok (.invokevirtual 247, 3) := by decide +kernel
theorem dX4_readBody_264 : decode cX4_readBody 264 = .ok (.ireturn, 1) := by decide +kernel
theorem dX4_readBody_265 : decode cX4_readBody 265 = .ok (.aload_n 0, 1) := by decide +kernel
theorem dX4_readBody_266 : decode cX4_readBody 266 = .ok (.iload_n 3, 1) := by decide +kernel
theorem dX4_readBody_267 : decode cX4_readBody 267 = .ok (.invokevirtual 250, 3) := by decide +kernel
theorem dX4_readBody_270 : decode cX4_readBody 270 = .ok (.ireturn, 1) := by decide +kernel
theorem dX4_readBody_271 : decode cX4_readBody 271 = .ok (.aload_n 0, 1) := by decide +kernel
theorem dX4_readBody_272 : decode cX4_readBody 272 = .ok (.iload_n 3, 1) := by decide +kernel
theorem dX4_readBody_273 : decode cX4_readBody 273 = .ok (.invokevirtual 253, 3) := by decide +kernel
theorem dX4_readBody_276 : decode cX4_readBody 276 = .ok (.ireturn, 1) := by decide +kernel
theorem dX4_readBody_277 : decode cX4_readBody 277 = .ok (.aload_n 0, 1) := by decide +kernel
theorem dX4_readBody_278 : decode cX4_readBody 278 = .ok (.iload_n 3, 1) := by decide +kernel
theorem dX4_readBody_279 : decode cX4_readBody 279 = .ok (.invokevirtual 256, 3) := by decide +kernel
theorem dX4_readBody_282 : decode cX4_readBody 282 = .ok (.ireturn, 1) := by decide +kernel
theorem dX4_readBody_283 : decode cX4_readBody 283 = .ok (.aload_n 0, 1) := by decide +kernel
theorem dX4_readBody_284 : decode cX4_readBody 284 = .ok (.invokevirtual 259, 3) := by decide +kernel
theorem dX4_readBody_287 : decode cX4_readBody 287 = .ok (.ireturn, 1) := by decide +kernel
theorem dX4_readBody_288 : decode cX4_readBody 288 = .ok (.aload_n 0, 1) := by decide +kernel
theorem dX4_readBody_289 : decode cX4_readBody 289 = .ok (.aload_n 0, 1) := by decide +kernel
theorem dX4_readBody_290 : decode cX4_readBody 290 = .ok (.aload_n 2, 1) := by decide +kernel
theorem dX4_readBody_291 : decode cX4_readBody 291 = .ok (.invokevirtual 262, 3) := by decide +kernel
theorem dX4_readBody_294 : decode cX4_readBody 294 = .ok (.iload_n 3, 1) := by decide +kernel
theorem dX4_readBody_295 : decode cX4_readBody 295 = .ok (.invokevirtual 237, 3) := by decide +kernel
theorem dX4_readBody_298 : decode cX4_readBody 298 = .ok (.ireturn, 1) := by decide +kernel
theorem dX4_readBody_299 : decode cX4_readBody 299 = .ok (.aload_n 0, 1) := by decide +kernel
theorem dX4_readBody_300 : decode cX4_readBody 300 = .ok (.aload_n 2, 1) := by decide +kernel
theorem dX4_readBody_301 : decode cX4_readBody 301 = .ok (.iload_n 3, 1) := by decide +kernel
theorem dX4_readBody_302 : decode cX4_readBody 302 = .ok (.invokevirtual 265, 3) := by decide +kernel
theorem dX4_readBody_305 : decode cX4_readBody 305 = .ok (.ireturn, 1) := by decide +kernel
theorem dX4_readBody_306 : decode cX4_readBody 306 = .ok (.aload_n 0, 1) := by decide +kernel
theorem dX4_readBody_307 : decode cX4_readBody 307 = .ok (.getfield 20, 3) := by decide +kernel
theorem dX4_readBody_310 : decode cX4_readBody 310 = .ok (.iconst 0, 1) := by decide +kernel
theorem dX4_readBody_311 : decode cX4_readBody 311 = .ok (.invokevirtual 159, 3) := by decide +kernel
theorem dX4_readBody_314 : decode cX4_readBody 314 = .ok (.ireturn, 1) := by decide +kernel
theorem dX4_readEmit_0 : decode cX4_readEmit 0 = .ok (.aload_n 0, 1) := by decide +kernel
theorem dX4_readEmit_1 : decode cX4_readEmit 1 = .ok (.getfield 14, 3) := by decide +kernel
theorem dX4_readEmit_4 : decode cX4_readEmit 4 = .ok (.getfield 171, 3) := by decide +kernel
theorem dX4_readEmit_7 : decode cX4_readEmit 7 = .ok (.istore_n 2, 1) := by decide +kernel
theorem dX4_readEmit_8 : decode cX4_readEmit 8 = .ok (.aload_n 0, 1) := by decide +kernel
theorem dX4_readEmit_9 : decode cX4_readEmit 9 = .ok (.invokevirtual 268, 3) := by decide +kernel
theorem dX4_readEmit_12 : decode cX4_readEmit 12 = .ok (.istore_n 3, 1) := by decide +kernel
theorem dX4_readEmit_13 : decode cX4_readEmit 13 = .ok (.aload_n 0, 1) := by decide +kernel
theorem dX4_readEmit_14 : decode cX4_readEmit 14 = .ok (.getfield 14, 3) := by decide +kernel
theorem dX4_readEmit_17 : decode cX4_readEmit 17 = .ok (.invokevirtual 117, 3) := by decide +kernel
theorem dX4_readEmit_20 : decode cX4_readEmit 20 = .ok (.iload_n 3, 1) := by decide +kernel
theorem dX4_readEmit_21 : decode cX4_readEmit 21 = .ok (.iconst (-1), 1) := by decide +kernel
theorem dX4_readEmit_22 : decode cX4_readEmit 22 = .ok (.if_icmp .eq 13, 3) := by decide +kernel
theorem dX4_readEmit_25 : decode cX4_readEmit 25 = .ok (.aload_n 0, 1) := by decide +kernel
theorem dX4_readEmit_26 : decode cX4_readEmit 26 = .ok (.getfield 14, 3) := by decide +kernel
theorem dX4_readEmit_29 : decode cX4_readEmit 29 = .ok (.getfield 79, 3) := by decide +kernel
theorem dX4_readEmit_32 : decode cX4_readEmit 32 = .ok (.ifCond .eq 5, 3) := by decide +kernel
theorem dX4_readEmit_35 : decode cX4_readEmit 35 = .ok (.iconst 0, 1) := by decide +kernel
theorem dX4_readEmit_36 : decode cX4_readEmit 36 = .ok (.ireturn, 1) := by decide +kernel
theorem dX4_readEmit_37 : decode cX4_readEmit 37 = .ok (.aload_n 0, 1) := by decide +kernel
theorem dX4_readEmit_38 : decode cX4_readEmit 38 = .ok (.getfield 31, 3) := by decide +kernel
theorem dX4_readEmit_41 : decode cX4_readEmit 41 = .ok (.getfield 138, 3) := by decide +kernel
theorem dX4_readEmit_44 : decode cX4_readEmit 44 = .ok (.iload_n 3, 1) := by decide +kernel
theorem dX4_readEmit_45 : decode cX4_readEmit 45 = .ok (.iaload, 1) := by decide +kernel
theorem dX4_readEmit_46 : decode cX4_readEmit 46 = .ok (.ifCond .eq 7, 3) := by decide +kernel
theorem dX4_readEmit_49 : decode cX4_readEmit 49 = .ok (.iconst 1, 1) := by decide +kernel
theorem dX4_readEmit_50 : decode cX4_readEmit 50 = .ok (.goto 4, 3) := by decide +kernel
theorem dX4_readEmit_53 : decode cX4_readEmit 53 = .ok (.iconst 0, 1) := by decide +kernel
theorem dX4_readEmit_54 : decode cX4_readEmit 54 = .ok (.istore 4, 2) := by decide +kernel
theorem dX4_readEmit_56 : decode cX4_readEmit 56 = .ok (.iload 4, 2) := by decide +kernel
theorem dX4_readEmit_58 : decode cX4_readEmit 58 = .ok (.aload_n 0, 1) := by decide +kernel
theorem dX4_readEmit_59 : decode cX4_readEmit 59 = .ok (.getfield 14, 3) := by decide +kernel
theorem dX4_readEmit_62 : decode cX4_readEmit 62 = .ok (.getfield 66, 3) := by decide +kernel
theorem dX4_readEmit_65 : decode cX4_readEmit 65 = .ok (.bipush 15, 2) := by decide +kernel
theorem dX4_readEmit_67 : decode cX4_readEmit 67 = .ok (.if_icmp .ne 7, 3) := by decide +kernel
theorem dX4_readEmit_70 : decode cX4_readEmit 70 = .ok (.iconst 1, 1) := by decide +kernel
theorem dX4_readEmit_71 : decode cX4_readEmit 71 = .ok (.goto 4, 3) := by decide +kernel
theorem dX4_readEmit_74 : decode cX4_readEmit 74 = .ok (.iconst 0, 1) := by decide +kernel
theorem dX4_readEmit_75 : decode cX4_readEmit 75 = .ok (.if_icmp .eq 15, 3) := by decide +kernel
theorem dX4_readEmit_78 : decode cX4_readEmit 78 = .ok (.aload_n 0, 1) := by decide +kernel
theorem dX4_readEmit_79 : decode cX4_readEmit 79 = .ok (.getfield 14, 3) := by decide +kernel
theorem dX4_readEmit_82 : decode cX4_readEmit 82 = .ok (.iconst 5, 1) := by decide +kernel
theorem dX4_readEmit_83 : decode cX4_readEmit 83 = .ok (.iload_n 2, 1) := by decide +kernel
theorem dX4_readEmit_84 : decode cX4_readEmit 84 = .ok (.invokevirtual 104, 3) := by decide +kernel
theorem dX4_readEmit_87 : decode cX4_readEmit 87 = .ok (.goto 47, 3) := by decide +kernel
theorem dX4_readEmit_90 : decode cX4_readEmit 90 = .ok (.iload 4, 2) := by decide +kernel
theorem dX4_readEmit_92 : decode cX4_readEmit 92 = .ok (.ifCond .eq 42, 3) := by decide +kernel
theorem dX4_readEmit_95 : decode cX4_readEmit 95 = .ok (.aload_n 1, 1) := by decide +kernel
theorem dX4_readEmit_96 : decode cX4_readEmit 96 = .ok (.iconst 1, 1) := by decide +kernel
theorem dX4_readEmit_97 : decode cX4_readEmit 97 = .ok (.putfield 271, 3) := by decide +kernel
theorem dX4_readEmit_100 : decode cX4_readEmit 100 = .ok (.aload_n 1, 1) := by decide +kernel
theorem dX4_readEmit_101 : decode cX4_readEmit 101 = .ok (.iload_n 3, 1) := by decide +kernel
theorem dX4_readEmit_102 : decode cX4_readEmit 102 = .ok (.putfield 274, 3) := by decide +kernel
theorem dX4_readEmit_105 : decode cX4_readEmit 105 = .ok (.aload_n 1, 1) := by decide +kernel
theorem dX4_readEmit_106 : decode cX4_readEmit 106 = .ok (.aload_n 0, 1) := by decide +kernel
theorem dX4_readEmit_107 : decode cX4_readEmit 107 = .ok (.getfield 31, 3) := by decide +kernel
theorem dX4_readEmit_110 : decode cX4_readEmit 110 = .ok (.getfield 277, 3) := by decide +kernel
theorem dX4_readEmit_113 : decode cX4_readEmit 113 = .ok (.getfield 281, 3) := by decide +kernel
theorem dX4_readEmit_116 : decode cX4_readEmit 116 = .ok (.putfield 286, 3) := by decide +kernel
theorem dX4_readEmit_119 : decode cX4_readEmit 119 = .ok (.aload_n 0, 1) := by decide +kernel
theorem dX4_readEmit_120 : decode cX4_readEmit 120 = .ok (.invokevirtual 289, 3) := by decide +kernel
theorem dX4_readEmit_123 : decode cX4_readEmit 123 = .ok (.aload_n 0, 1) := by decide +kernel
theorem dX4_readEmit_124 : decode cX4_readEmit 124 = .ok (.getfield 31, 3) := by decide +kernel
theorem dX4_readEmit_127 : decode cX4_readEmit 127 = .ok (.getfield 277, 3) := by decide +kernel
theorem dX4_readEmit_130 : decode cX4_readEmit 130 = .ok (.iconst 0, 1) := by decide +kernel
theorem dX4_readEmit_131 : decode cX4_readEmit 131 = .ok (.invokevirtual 292, 3) := by decide +kernel
theorem dX4_readEmit_134 : decode cX4_readEmit 134 = .ok (.aload_n 0, 1) := by decide +kernel
theorem dX4_readEmit_135 : decode cX4_readEmit 135 = .ok (.getfield 20, 3) := by decide +kernel
theorem dX4_readEmit_138 : decode cX4_readEmit 138 = .ok (.iload_n 3, 1) := by decide +kernel
theorem dX4_readEmit_139 : decode cX4_readEmit 139 = .ok (.invokevirtual 294, 3) := by decide +kernel
theorem dX4_readEmit_142 : decode cX4_readEmit 142 = .ok (.ireturn, 1) := by decide +kernel
theorem dX4_readSustain_0 : decode cX4_readSustain 0 = .ok (.aload_n 0, 1) := by decide +kernel
theorem dX4_readSustain_1 : decode cX4_readSustain 1 = .ok (.getfield 14, 3) := by decide +kernel
theorem dX4_readSustain_4 : decode cX4_readSustain 4 = .ok (.getfield 171, 3) := by decide +kernel
theorem dX4_readSustain_7 : decode cX4_readSustain 7 = .ok (.istore_n 1, 1) := by decide +kernel
theorem dX4_readSustain_8 : decode cX4_readSustain 8 = .ok (.aload_n 0, 1) := by decide +kernel
theorem dX4_readSustain_9 : decode cX4_readSustain 9 = .ok (.invokevirtual 268, 3) := by decide +kernel
theorem dX4_readSustain_12 : decode cX4_readSustain 12 = .ok (.istore_n 2, 1) := by decide +kernel
theorem dX4_readSustain_13 : decode cX4_readSustain 13 = .ok (.aload_n 0, 1) := by decide +kernel
theorem dX4_readSustain_14 : decode cX4_readSustain 14 = .ok (.getfield 14, 3) := by decide +kernel
theorem dX4_readSustain_17 : decode cX4_readSustain 17 = .ok (.invokevirtual 117, 3) := by decide +kernel
theorem dX4_readSustain_20 : decode cX4_readSustain 20 = .ok (.iload_n 2, 1) := by decide +kernel
theorem dX4_readSustain_21 : decode cX4_readSustain 21 = .ok (.iconst (-1), 1) := by decide +kernel
theorem dX4_readSustain_22 : decode cX4_readSustain 22 = .ok (.if_icmp .eq 13, 3) := by decide +kernel
theorem dX4_readSustain_25 : decode cX4_readSustain 25 = .ok (.aload_n 0, 1) := by decide +kernel
theorem dX4_readSustain_26 : decode cX4_readSustain 26 = .ok (.getfield 14, 3) := by decide +kernel
theorem dX4_readSustain_29 : decode cX4_readSustain 29 = .ok (.getfield 79, 3) := by decide +kernel
theorem dX4_readSustain_32 : decode cX4_readSustain 32 = .ok (.ifCond .eq 5, 3) := by decide +kernel
theorem dX4_readSustain_35 : decode cX4_readSustain 35 = .ok (.iconst 0, 1) := by decide +kernel
theorem dX4_readSustain_36 : decode cX4_readSustain 36 = .ok (.ireturn, 1) := by decide +kernel
theorem dX4_readSustain_37 : decode cX4_readSustain 37 = .ok (.aload_n 0, 1) := by decide +kernel
theorem dX4_readSustain_38 : decode cX4_readSustain 38 = .ok (.getfield 31, 3) := by decide +kernel
theorem dX4_readSustain_41 : decode cX4_readSustain 41 = .ok (.getfield 138, 3) := by decide +kernel
theorem dX4_readSustain_44 : decode cX4_readSustain 44 = .ok (.iload_n 2, 1) := by decide +kernel
theorem dX4_readSustain_45 : decode cX4_readSustain 45 = .ok (.iaload, 1) := by decide +kernel
theorem dX4_readSustain_46 : decode cX4_readSustain 46 = .ok (.ifCond .eq 12, 3) := by decide +kernel
theorem dX4_readSustain_49 : decode cX4_readSustain 49 = .ok (.aload_n 0, 1) := by decide +kernel
theorem dX4_readSustain_50 : decode cX4_readSustain 50 = .ok (.getfield 14, 3) := by decide +kernel
theorem dX4_readSustain_53 : decode cX4_readSustain 53 = .ok (.iconst 5, 1) := by decide +kernel
theorem dX4_readSustain_54 : decode cX4_readSustain 54 = .ok (.iload_n 1, 1) := by decide +kernel
theorem dX4_readSustain_55 : decode cX4_readSustain 55 = .ok (.invokevirtual 104, 3) := by decide +kernel
theorem dX4_readSustain_58 : decode cX4_readSustain 58 = .ok (.aload_n 0, 1) := by decide +kernel
theorem dX4_readSustain_59 : decode cX4_readSustain 59 = .ok (.getfield 20, 3) := by decide +kernel
theorem dX4_readSustain_62 : decode cX4_readSustain 62 = .ok (.iload_n 2, 1) := by decide +kernel
theorem dX4_readSustain_63 : decode cX4_readSustain 63 = .ok (.invokevirtual 297, 3) := by decide +kernel
theorem dX4_readSustain_66 : decode cX4_readSustain 66 = .ok (.ireturn, 1) := by decide +kernel
theorem dX4_emittedSignal_0 : decode cX4_emittedSignal 0 = .ok (.aload_n 0, 1) := by decide +kernel
theorem dX4_emittedSignal_1 : decode cX4_emittedSignal 1 = .ok (.invokevirtual 300, 3) := by decide +kernel
theorem dX4_emittedSignal_4 : decode cX4_emittedSignal 4 = .ok (.istore_n 1, 1) := by decide +kernel
theorem dX4_emittedSignal_5 : decode cX4_emittedSignal 5 = .ok (.iload_n 1, 1) := by decide +kernel
theorem dX4_emittedSignal_6 : decode cX4_emittedSignal 6 = .ok (.iconst (-1), 1) := by decide +kernel
theorem dX4_emittedSignal_7 : decode cX4_emittedSignal 7 = .ok (.if_icmp .eq 27, 3) := by decide +kernel
theorem dX4_emittedSignal_10 : decode cX4_emittedSignal 10 = .ok (.aload_n 0, 1) := by decide +kernel
theorem dX4_emittedSignal_11 : decode cX4_emittedSignal 11 = .ok (.getfield 31, 3) := by decide +kernel
theorem dX4_emittedSignal_14 : decode cX4_emittedSignal 14 = .ok (.getfield 303, 3) := by decide +kernel
theorem dX4_emittedSignal_17 : decode cX4_emittedSignal 17 = .ok (.iload_n 1, 1) := by decide +kernel
theorem dX4_emittedSignal_18 : decode cX4_emittedSignal 18 = .ok (.iaload, 1) := by decide +kernel
theorem dX4_emittedSignal_19 : decode cX4_emittedSignal 19 = .ok (.bipush 30, 2) := by decide +kernel
theorem dX4_emittedSignal_21 : decode cX4_emittedSignal 21 = .ok (.if_icmp .ne 13, 3) := by decide +kernel
theorem dX4_emittedSignal_24 : decode cX4_emittedSignal 24 = .ok (.aload_n 0, 1) := by decide +kernel
theorem dX4_emittedSignal_25 : decode cX4_emittedSignal 25 = .ok (.getfield 14, 3) := by decide +kernel
theorem dX4_emittedSignal_28 : decode cX4_emittedSignal 28 = .ok (.iconst 4, 1) := by decide +kernel
theorem dX4_emittedSignal_29 : decode cX4_emittedSignal 29 = .ok (.invokevirtual 69, 3) := by decide +kernel
theorem dX4_emittedSignal_32 : decode cX4_emittedSignal 32 = .ok (.iconst (-1), 1) := by decide +kernel
theorem dX4_emittedSignal_33 : decode cX4_emittedSignal 33 = .ok (.ireturn, 1) := by decide +kernel
theorem dX4_emittedSignal_34 : decode cX4_emittedSignal 34 = .ok (.iload_n 1, 1) := by decide +kernel
theorem dX4_emittedSignal_35 : decode cX4_emittedSignal 35 = .ok (.ireturn, 1) := by decide +kernel
theorem dX4_toldSignal_0 : decode cX4_toldSignal 0 = .ok (.aload_n 0, 1) := by decide +kernel
theorem dX4_toldSignal_1 : decode cX4_toldSignal 1 = .ok (.getfield 14, 3) := by decide +kernel
theorem dX4_toldSignal_4 : decode cX4_toldSignal 4 = .ok (.getfield 66, 3) := by decide +kernel
theorem dX4_toldSignal_7 : decode cX4_toldSignal 7 = .ok (.iconst 2, 1) := by decide +kernel
theorem dX4_toldSignal_8 : decode cX4_toldSignal 8 = .ok (.if_icmp .eq 13, 3) := by decide +kernel
theorem dX4_toldSignal_11 : decode cX4_toldSignal 11 = .ok (.aload_n 0, 1) := by decide +kernel
theorem dX4_toldSignal_12 : decode cX4_toldSignal 12 = .ok (.getfield 14, 3) := by decide +kernel
theorem dX4_toldSignal_15 : decode cX4_toldSignal 15 = .ok (.iconst 2, 1) := by decide +kernel
theorem dX4_toldSignal_16 : decode cX4_toldSignal 16 = .ok (.invokevirtual 69, 3) := by decide +kernel
theorem dX4_toldSignal_19 : decode cX4_toldSignal 19 = .ok (.iconst (-1), 1) := by decide +kernel
theorem dX4_toldSignal_20 : decode cX4_toldSignal 20 = .ok (.ireturn, 1) := by decide +kernel
theorem dX4_toldSignal_21 : decode cX4_toldSignal 21 = .ok (.aload_n 0, 1) := by decide +kernel
theorem dX4_toldSignal_22 : decode cX4_toldSignal 22 = .ok (.getfield 31, 3) := by decide +kernel
theorem dX4_toldSignal_25 : decode cX4_toldSignal 25 = .ok (.aload_n 0, 1) := by decide +kernel
theorem dX4_toldSignal_26 : decode cX4_toldSignal 26 = .ok (.getfield 14, 3) := by decide +kernel
theorem dX4_toldSignal_29 : decode cX4_toldSignal 29 = .ok (.getfield 126, 3) := by decide +kernel
theorem dX4_toldSignal_32 : decode cX4_toldSignal 32 = .ok (.invokevirtual 306, 3) := by decide +kernel
theorem dX4_toldSignal_35 : decode cX4_toldSignal 35 = .ok (.istore_n 1, 1) := by decide +kernel
theorem dX4_toldSignal_36 : decode cX4_toldSignal 36 = .ok (.iload_n 1, 1) := by decide +kernel
theorem dX4_toldSignal_37 : decode cX4_toldSignal 37 = .ok (.iconst (-1), 1) := by decide +kernel
theorem dX4_toldSignal_38 : decode cX4_toldSignal 38 = .ok (.if_icmp .ne 11, 3) := by decide +kernel
theorem dX4_toldSignal_41 : decode cX4_toldSignal 41 = .ok (.aload_n 0, 1) := by decide +kernel
theorem dX4_toldSignal_42 : decode cX4_toldSignal 42 = .ok (.getfield 14, 3) := by decide +kernel
theorem dX4_toldSignal_45 : decode cX4_toldSignal 45 = .ok (.iconst 4, 1) := by decide +kernel
theorem dX4_toldSignal_46 : decode cX4_toldSignal 46 = .ok (.invokevirtual 69, 3) := by decide +kernel
theorem dX4_toldSignal_49 : decode cX4_toldSignal 49 = .ok (.iload_n 1, 1) := by decide +kernel
theorem dX4_toldSignal_50 : decode cX4_toldSignal 50 = .ok (.ireturn, 1) := by decide +kernel
theorem dX4_readExit_0 : decode cX4_readExit 0 = .ok (.aload_n 0, 1) := by decide +kernel
theorem dX4_readExit_1 : decode cX4_readExit 1 = .ok (.getfield 14, 3) := by decide +kernel
theorem dX4_readExit_4 : decode cX4_readExit 4 = .ok (.getfield 66, 3) := by decide +kernel
theorem dX4_readExit_7 : decode cX4_readExit 7 = .ok (.iconst 2, 1) := by decide +kernel
theorem dX4_readExit_8 : decode cX4_readExit 8 = .ok (.if_icmp .eq 13, 3) := by decide +kernel
theorem dX4_readExit_11 : decode cX4_readExit 11 = .ok (.aload_n 0, 1) := by decide +kernel
theorem dX4_readExit_12 : decode cX4_readExit 12 = .ok (.getfield 14, 3) := by decide +kernel
theorem dX4_readExit_15 : decode cX4_readExit 15 = .ok (.iconst 2, 1) := by decide +kernel
theorem dX4_readExit_16 : decode cX4_readExit 16 = .ok (.invokevirtual 69, 3) := by decide +kernel
theorem dX4_readExit_19 : decode cX4_readExit 19 = .ok (.iconst 0, 1) := by decide +kernel
theorem dX4_readExit_20 : decode cX4_readExit 20 = .ok (.ireturn, 1) := by decide +kernel
theorem dX4_readExit_21 : decode cX4_readExit 21 = .ok (.aload_n 0, 1) := by decide +kernel
theorem dX4_readExit_22 : decode cX4_readExit 22 = .ok (.aload_n 0, 1) := by decide +kernel
theorem dX4_readExit_23 : decode cX4_readExit 23 = .ok (.getfield 14, 3) := by decide +kernel
theorem dX4_readExit_26 : decode cX4_readExit 26 = .ok (.getfield 126, 3) := by decide +kernel
theorem dX4_readExit_29 : decode cX4_readExit 29 = .ok (.invokevirtual 309, 3) := by decide +kernel
theorem dX4_readExit_32 : decode cX4_readExit 32 = .ok (.istore_n 1, 1) := by decide +kernel
theorem dX4_readExit_33 : decode cX4_readExit 33 = .ok (.iload_n 1, 1) := by decide +kernel
theorem dX4_readExit_34 : decode cX4_readExit 34 = .ok (.iconst (-1), 1) := by decide +kernel
theorem dX4_readExit_35 : decode cX4_readExit 35 = .ok (.if_icmp .ne 13, 3) := by decide +kernel
theorem dX4_readExit_38 : decode cX4_readExit 38 = .ok (.aload_n 0, 1) := by decide +kernel
theorem dX4_readExit_39 : decode cX4_readExit 39 = .ok (.getfield 14, 3) := by decide +kernel
theorem dX4_readExit_42 : decode cX4_readExit 42 = .ok (.iconst 4, 1) := by decide +kernel
theorem dX4_readExit_43 : decode cX4_readExit 43 = .ok (.invokevirtual 69, 3) := by decide +kernel
theorem dX4_readExit_46 : decode cX4_readExit 46 = .ok (.iconst 0, 1) := by decide +kernel
theorem dX4_readExit_47 : decode cX4_readExit 47 = .ok (.ireturn, 1) := by decide +kernel
theorem dX4_readExit_48 : decode cX4_readExit 48 = .ok (.aload_n 0, 1) := by decide +kernel
theorem dX4_readExit_49 : decode cX4_readExit 49 = .ok (.getfield 14, 3) := by decide +kernel
theorem dX4_readExit_52 : decode cX4_readExit 52 = .ok (.invokevirtual 117, 3) := by decide +kernel
theorem dX4_readExit_55 : decode cX4_readExit 55 = .ok (.aload_n 0, 1) := by decide +kernel
theorem dX4_readExit_56 : decode cX4_readExit 56 = .ok (.getfield 20, 3) := by decide +kernel
theorem dX4_readExit_59 : decode cX4_readExit 59 = .ok (.iload_n 1, 1) := by decide +kernel
theorem dX4_readExit_60 : decode cX4_readExit 60 = .ok (.invokevirtual 312, 3) := by decide +kernel
theorem dX4_readExit_63 : decode cX4_readExit 63 = .ok (.ireturn, 1) := by decide +kernel
theorem dX4_trapsWithin_0 : decode cX4_trapsWithin 0 = .ok (.iconst 0, 1) := by decide +kernel
theorem dX4_trapsWithin_1 : decode cX4_trapsWithin 1 = .ok (.istore_n 3, 1) := by decide +kernel
theorem dX4_trapsWithin_2 : decode cX4_trapsWithin 2 = .ok (.iload_n 3, 1) := by decide +kernel
theorem dX4_trapsWithin_3 : decode cX4_trapsWithin 3 = .ok (.aload_n 0, 1) := by decide +kernel
theorem dX4_trapsWithin_4 : decode cX4_trapsWithin 4 = .ok (.getfield 35, 3) := by decide +kernel
theorem dX4_trapsWithin_7 : decode cX4_trapsWithin 7 = .ok (.if_icmp .ge 29, 3) := by decide +kernel
theorem dX4_trapsWithin_10 : decode cX4_trapsWithin 10 = .ok (.aload_n 0, 1) := by decide +kernel
theorem dX4_trapsWithin_11 : decode cX4_trapsWithin 11 = .ok (.getfield 24, 3) := by decide +kernel
theorem dX4_trapsWithin_14 : decode cX4_trapsWithin 14 = .ok (.aload_n 0, 1) := by decide +kernel
theorem dX4_trapsWithin_15 : decode cX4_trapsWithin 15 = .ok (.getfield 35, 3) := by decide +kernel
theorem dX4_trapsWithin_18 : decode cX4_trapsWithin 18 = .ok (.iconst 1, 1) := by decide +kernel
theorem dX4_trapsWithin_19 : decode cX4_trapsWithin 19 = .ok (.isub, 1) := by decide +kernel
theorem dX4_trapsWithin_20 : decode cX4_trapsWithin 20 = .ok (.iload_n 3, 1) := by decide +kernel
theorem dX4_trapsWithin_21 : decode cX4_trapsWithin 21 = .ok (.isub, 1) := by decide +kernel
theorem dX4_trapsWithin_22 : decode cX4_trapsWithin 22 = .ok (.laload, 1) := by decide +kernel
theorem dX4_trapsWithin_23 : decode cX4_trapsWithin 23 = .ok (.lload_n 1, 1) := by decide +kernel
theorem dX4_trapsWithin_24 : decode cX4_trapsWithin 24 = .ok (.lcmp, 1) := by decide +kernel
theorem dX4_trapsWithin_25 : decode cX4_trapsWithin 25 = .ok (.ifCond .ne 5, 3) := by decide +kernel
theorem dX4_trapsWithin_28 : decode cX4_trapsWithin 28 = .ok (.iload_n 3, 1) := by decide +kernel
theorem dX4_trapsWithin_29 : decode cX4_trapsWithin 29 = .ok (.ireturn, 1) := by decide +kernel
theorem dX4_trapsWithin_30 : decode cX4_trapsWithin 30 = .ok (.iinc 3 1, 3) := by decide +kernel
theorem dX4_trapsWithin_33 : decode cX4_trapsWithin 33 = .ok (.goto (-31), 3) := by decide +kernel
theorem dX4_trapsWithin_36 : decode cX4_trapsWithin 36 = .ok (.iconst (-1), 1) := by decide +kernel
theorem dX4_trapsWithin_37 : decode cX4_trapsWithin 37 = .ok (.ireturn, 1) := by decide +kernel
theorem dX4_readAssign_0 : decode cX4_readAssign 0 = .ok (.aload_n 0, 1) := by decide +kernel
theorem dX4_readAssign_1 : decode cX4_readAssign 1 = .ok (.getfield 31, 3) := by decide +kernel
theorem dX4_readAssign_4 : decode cX4_readAssign 4 = .ok (.lload_n 2, 1) := by decide +kernel
theorem dX4_readAssign_5 : decode cX4_readAssign 5 = .ok (.invokevirtual 210, 3) := by decide +kernel
theorem dX4_readAssign_8 : decode cX4_readAssign 8 = .ok (.istore 4, 2) := by decide +kernel
theorem dX4_readAssign_10 : decode cX4_readAssign 10 = .ok (.aload_n 1, 1) := by decide +kernel
theorem dX4_readAssign_11 : decode cX4_readAssign 11 = .ok (.iconst 2, 1) := by decide +kernel
theorem dX4_readAssign_12 : decode cX4_readAssign 12 = .ok (.putfield 271, 3) := by decide +kernel
theorem dX4_readAssign_15 : decode cX4_readAssign 15 = .ok (.aload_n 1, 1) := by decide +kernel
theorem dX4_readAssign_16 : decode cX4_readAssign 16 = .ok (.iload 4, 2) := by decide +kernel
theorem dX4_readAssign_18 : decode cX4_readAssign 18 = .ok (.putfield 274, 3) := by decide +kernel
theorem dX4_readAssign_21 : decode cX4_readAssign 21 = .ok (.aload_n 0, 1) := by decide +kernel
theorem dX4_readAssign_22 : decode cX4_readAssign 22 = .ok (.dup, 1) := by decide +kernel
theorem dX4_readAssign_23 : decode cX4_readAssign 23 = .ok (.getfield 42, 3) := by decide +kernel
theorem dX4_readAssign_26 : decode cX4_readAssign 26 = .ok (.iconst 1, 1) := by decide +kernel
theorem dX4_readAssign_27 : decode cX4_readAssign 27 = .ok (.iload 4, 2) := by decide +kernel
theorem dX4_readAssign_29 : decode cX4_readAssign 29 = .ok (.ishl, 1) := by decide +kernel
theorem dX4_readAssign_30 : decode cX4_readAssign 30 = .ok (.ior, 1) := by decide +kernel
theorem dX4_readAssign_31 : decode cX4_readAssign 31 = .ok (.putfield 42, 3) := by decide +kernel
theorem dX4_readAssign_34 : decode cX4_readAssign 34 = .ok (.aload_n 0, 1) := by decide +kernel
theorem dX4_readAssign_35 : decode cX4_readAssign 35 = .ok (.getfield 14, 3) := by decide +kernel
theorem dX4_readAssign_38 : decode cX4_readAssign 38 = .ok (.iconst 5, 1) := by decide +kernel
theorem dX4_readAssign_39 : decode cX4_readAssign 39 = .ok (.invokevirtual 114, 3) := by decide +kernel
theorem dX4_readAssign_42 : decode cX4_readAssign 42 = .ok (.aload_n 1, 1) := by decide +kernel
theorem dX4_readAssign_43 : decode cX4_readAssign 43 = .ok (.aload_n 0, 1) := by decide +kernel
theorem dX4_readAssign_44 : decode cX4_readAssign 44 = .ok (.getfield 31, 3) := by decide +kernel
theorem dX4_readAssign_47 : decode cX4_readAssign 47 = .ok (.getfield 277, 3) := by decide +kernel
theorem dX4_readAssign_50 : decode cX4_readAssign 50 = .ok (.getfield 281, 3) := by decide +kernel
theorem dX4_readAssign_53 : decode cX4_readAssign 53 = .ok (.putfield 286, 3) := by decide +kernel
theorem dX4_readAssign_56 : decode cX4_readAssign 56 = .ok (.aload_n 0, 1) := by decide +kernel
theorem dX4_readAssign_57 : decode cX4_readAssign 57 = .ok (.invokevirtual 315, 3) := by decide +kernel
theorem dX4_readAssign_60 : decode cX4_readAssign 60 = .ok (.aload_n 0, 1) := by decide +kernel
theorem dX4_readAssign_61 : decode cX4_readAssign 61 = .ok (.getfield 31, 3) := by decide +kernel
theorem dX4_readAssign_64 : decode cX4_readAssign 64 = .ok (.getfield 277, 3) := by decide +kernel
theorem dX4_readAssign_67 : decode cX4_readAssign 67 = .ok (.iconst 0, 1) := by decide +kernel
theorem dX4_readAssign_68 : decode cX4_readAssign 68 = .ok (.invokevirtual 292, 3) := by decide +kernel
theorem dX4_readAssign_71 : decode cX4_readAssign 71 = .ok (.aload_n 0, 1) := by decide +kernel
theorem dX4_readAssign_72 : decode cX4_readAssign 72 = .ok (.getfield 20, 3) := by decide +kernel
theorem dX4_readAssign_75 : decode cX4_readAssign 75 = .ok (.iconst 0, 1) := by decide +kernel
theorem dX4_readAssign_76 : decode cX4_readAssign 76 = .ok (.invokevirtual 159, 3) := by decide +kernel
theorem dX4_readAssign_79 : decode cX4_readAssign 79 = .ok (.ireturn, 1) := by decide +kernel
theorem dX4_readLoop_0 : decode cX4_readLoop 0 = .ok (.aload_n 0, 1) := by decide +kernel
theorem dX4_readLoop_1 : decode cX4_readLoop 1 = .ok (.iload_n 2, 1) := by decide +kernel
theorem dX4_readLoop_2 : decode cX4_readLoop 2 = .ok (.invokevirtual 59, 3) := by decide +kernel
theorem dX4_readLoop_5 : decode cX4_readLoop 5 = .ok (.istore_n 3, 1) := by decide +kernel
theorem dX4_readLoop_6 : decode cX4_readLoop 6 = .ok (.aload_n 0, 1) := by decide +kernel
theorem dX4_readLoop_7 : decode cX4_readLoop 7 = .ok (.getfield 20, 3) := by decide +kernel
theorem dX4_readLoop_10 : decode cX4_readLoop 10 = .ok (.iload_n 3, 1) := by decide +kernel
theorem dX4_readLoop_11 : decode cX4_readLoop 11 = .ok (.invokevirtual 318, 3) := by decide +kernel
theorem dX4_readLoop_14 : decode cX4_readLoop 14 = .ok (.ifCond .eq 9, 3) := by decide +kernel
theorem dX4_readLoop_17 : decode cX4_readLoop 17 = .ok (.aload_n 1, 1) := by decide +kernel
theorem dX4_readLoop_18 : decode cX4_readLoop 18 = .ok (.bipush 7, 2) := by decide +kernel
theorem dX4_readLoop_20 : decode cX4_readLoop 20 = .ok (.putfield 98, 3) := by decide +kernel
theorem dX4_readLoop_23 : decode cX4_readLoop 23 = .ok (.aload_n 0, 1) := by decide +kernel
theorem dX4_readLoop_24 : decode cX4_readLoop 24 = .ok (.getfield 14, 3) := by decide +kernel
theorem dX4_readLoop_27 : decode cX4_readLoop 27 = .ok (.bipush 43, 2) := by decide +kernel
theorem dX4_readLoop_29 : decode cX4_readLoop 29 = .ok (.invokevirtual 114, 3) := by decide +kernel
theorem dX4_readLoop_32 : decode cX4_readLoop 32 = .ok (.aload_n 0, 1) := by decide +kernel
theorem dX4_readLoop_33 : decode cX4_readLoop 33 = .ok (.getfield 20, 3) := by decide +kernel
theorem dX4_readLoop_36 : decode cX4_readLoop 36 = .ok (.bipush 6, 2) := by decide +kernel
theorem dX4_readLoop_38 : decode cX4_readLoop 38 = .ok (.iload_n 3, 1) := by decide +kernel
theorem dX4_readLoop_39 : decode cX4_readLoop 39 = .ok (.invokevirtual 321, 3) := by decide +kernel
theorem dX4_readLoop_42 : decode cX4_readLoop 42 = .ok (.ireturn, 1) := by decide +kernel
theorem dX4_readChoice_0 : decode cX4_readChoice 0 = .ok (.aload_n 0, 1) := by decide +kernel
theorem dX4_readChoice_1 : decode cX4_readChoice 1 = .ok (.getfield 14, 3) := by decide +kernel
theorem dX4_readChoice_4 : decode cX4_readChoice 4 = .ok (.bipush 45, 2) := by decide +kernel
theorem dX4_readChoice_6 : decode cX4_readChoice 6 = .ok (.invokevirtual 114, 3) := by decide +kernel
theorem dX4_readChoice_9 : decode cX4_readChoice 9 = .ok (.aload_n 0, 1) := by decide +kernel
theorem dX4_readChoice_10 : decode cX4_readChoice 10 = .ok (.iload_n 2, 1) := by decide +kernel
theorem dX4_readChoice_11 : decode cX4_readChoice 11 = .ok (.invokevirtual 59, 3) := by decide +kernel
theorem dX4_readChoice_14 : decode cX4_readChoice 14 = .ok (.istore_n 3, 1) := by decide +kernel
theorem dX4_readChoice_15 : decode cX4_readChoice 15 = .ok (.aload_n 0, 1) := by decide +kernel
theorem dX4_readChoice_16 : decode cX4_readChoice 16 = .ok (.getfield 14, 3) := by decide +kernel
theorem dX4_readChoice_19 : decode cX4_readChoice 19 = .ok (.bipush 46, 2) := by decide +kernel
theorem dX4_readChoice_21 : decode cX4_readChoice 21 = .ok (.invokevirtual 134, 3) := by decide +kernel
theorem dX4_readChoice_24 : decode cX4_readChoice 24 = .ok (.ifCond .eq 11, 3) := by decide +kernel
theorem dX4_readChoice_27 : decode cX4_readChoice 27 = .ok (.aload_n 0, 1) := by decide +kernel
theorem dX4_readChoice_28 : decode cX4_readChoice 28 = .ok (.iload_n 2, 1) := by decide +kernel
theorem dX4_readChoice_29 : decode cX4_readChoice 29 = .ok (.invokevirtual 59, 3) := by decide +kernel
theorem dX4_readChoice_32 : decode cX4_readChoice 32 = .ok (.goto 11, 3) := by decide +kernel
theorem dX4_readChoice_35 : decode cX4_readChoice 35 = .ok (.aload_n 0, 1) := by decide +kernel
theorem dX4_readChoice_36 : decode cX4_readChoice 36 = .ok (.getfield 20, 3) := by decide +kernel
theorem dX4_readChoice_39 : decode cX4_readChoice 39 = .ok (.iconst 0, 1) := by decide +kernel
theorem dX4_readChoice_40 : decode cX4_readChoice 40 = .ok (.invokevirtual 159, 3) := by decide +kernel
theorem dX4_readChoice_43 : decode cX4_readChoice 43 = .ok (.istore 4, 2) := by decide +kernel
theorem dX4_readChoice_45 : decode cX4_readChoice 45 = .ok (.aload_n 0, 1) := by decide +kernel
theorem dX4_readChoice_46 : decode cX4_readChoice 46 = .ok (.getfield 14, 3) := by decide +kernel
theorem dX4_readChoice_49 : decode cX4_readChoice 49 = .ok (.bipush 43, 2) := by decide +kernel
theorem dX4_readChoice_51 : decode cX4_readChoice 51 = .ok (.invokevirtual 114, 3) := by decide +kernel
theorem dX4_readChoice_54 : decode cX4_readChoice 54 = .ok (.aload_n 0, 1) := by decide +kernel
theorem dX4_readChoice_55 : decode cX4_readChoice 55 = .ok (.getfield 20, 3) := by decide +kernel
theorem dX4_readChoice_58 : decode cX4_readChoice 58 = .ok (.iload_n 1, 1) := by decide +kernel
theorem dX4_readChoice_59 : decode cX4_readChoice 59 = .ok (.iload_n 3, 1) := by decide +kernel
theorem dX4_readChoice_60 : decode cX4_readChoice 60 = .ok (.iload 4, 2) := by decide +kernel
theorem dX4_readChoice_62 : decode cX4_readChoice 62 = .ok (.invokevirtual 324, 3) := by decide +kernel
theorem dX4_readChoice_65 : decode cX4_readChoice 65 = .ok (.ireturn, 1) := by decide +kernel
theorem dX4_readAbort_0 : decode cX4_readAbort 0 = .ok (.aload_n 0, 1) := by decide +kernel
theorem dX4_readAbort_1 : decode cX4_readAbort 1 = .ok (.lconst 0, 1) := by decide +kernel
theorem dX4_readAbort_2 : decode cX4_readAbort 2 = .ok (.iload_n 1, 1) := by decide +kernel
theorem dX4_readAbort_3 : decode cX4_readAbort 3 = .ok (.invokevirtual 328, 3) := by decide +kernel
theorem dX4_readAbort_6 : decode cX4_readAbort 6 = .ok (.istore_n 2, 1) := by decide +kernel
theorem dX4_readAbort_7 : decode cX4_readAbort 7 = .ok (.aload_n 0, 1) := by decide +kernel
theorem dX4_readAbort_8 : decode cX4_readAbort 8 = .ok (.getfield 14, 3) := by decide +kernel
theorem dX4_readAbort_11 : decode cX4_readAbort 11 = .ok (.bipush 51, 2) := by decide +kernel
theorem dX4_readAbort_13 : decode cX4_readAbort 13 = .ok (.invokevirtual 114, 3) := by decide +kernel
theorem dX4_readAbort_16 : decode cX4_readAbort 16 = .ok (.aload_n 0, 1) := by decide +kernel
theorem dX4_readAbort_17 : decode cX4_readAbort 17 = .ok (.getfield 14, 3) := by decide +kernel
theorem dX4_readAbort_20 : decode cX4_readAbort 20 = .ok (.bipush 48, 2) := by decide +kernel
theorem dX4_readAbort_22 : decode cX4_readAbort 22 = .ok (.invokevirtual 134, 3) := by decide +kernel
theorem dX4_readAbort_25 : decode cX4_readAbort 25 = .ok (.istore_n 3, 1) := by decide +kernel
theorem dX4_readAbort_26 : decode cX4_readAbort 26 = .ok (.aload_n 0, 1) := by decide +kernel
theorem dX4_readAbort_27 : decode cX4_readAbort 27 = .ok (.invokevirtual 234, 3) := by decide +kernel
theorem dX4_readAbort_30 : decode cX4_readAbort 30 = .ok (.istore 4, 2) := by decide +kernel
theorem dX4_readAbort_32 : decode cX4_readAbort 32 = .ok (.aload_n 0, 1) := by decide +kernel
theorem dX4_readAbort_33 : decode cX4_readAbort 33 = .ok (.getfield 14, 3) := by decide +kernel
theorem dX4_readAbort_36 : decode cX4_readAbort 36 = .ok (.bipush 43, 2) := by decide +kernel
theorem dX4_readAbort_38 : decode cX4_readAbort 38 = .ok (.invokevirtual 114, 3) := by decide +kernel
theorem dX4_readAbort_41 : decode cX4_readAbort 41 = .ok (.aload_n 0, 1) := by decide +kernel
theorem dX4_readAbort_42 : decode cX4_readAbort 42 = .ok (.getfield 20, 3) := by decide +kernel
theorem dX4_readAbort_45 : decode cX4_readAbort 45 = .ok (.iload_n 2, 1) := by decide +kernel
theorem dX4_readAbort_46 : decode cX4_readAbort 46 = .ok (.iload 4, 2) := by decide +kernel
theorem dX4_readAbort_48 : decode cX4_readAbort 48 = .ok (.invokevirtual 332, 3) := by decide +kernel
theorem dX4_readAbort_51 : decode cX4_readAbort 51 = .ok (.istore 5, 2) := by decide +kernel
theorem dX4_readAbort_53 : decode cX4_readAbort 53 = .ok (.iload_n 3, 1) := by decide +kernel
theorem dX4_readAbort_54 : decode cX4_readAbort 54 = .ok (.ifCond .eq 25, 3) := by decide +kernel
theorem dX4_readAbort_57 : decode cX4_readAbort 57 = .ok (.aload_n 0, 1) := by decide +kernel
theorem dX4_readAbort_58 : decode cX4_readAbort 58 = .ok (.getfield 20, 3) := by decide +kernel
theorem dX4_readAbort_61 : decode cX4_readAbort 61 = .ok (.iload 4, 2) := by decide +kernel
theorem dX4_readAbort_63 : decode cX4_readAbort 63 = .ok (.aload_n 0, 1) := by decide +kernel
theorem dX4_readAbort_64 : decode cX4_readAbort 64 = .ok (.getfield 20, 3) := by decide +kernel
theorem dX4_readAbort_67 : decode cX4_readAbort 67 = .ok (.iconst 0, 1) := by decide +kernel
theorem dX4_readAbort_68 : decode cX4_readAbort 68 = .ok (.invokevirtual 159, 3) := by decide +kernel
theorem dX4_readAbort_71 : decode cX4_readAbort 71 = .ok (.iload 5, 2) := by decide +kernel
theorem dX4_readAbort_73 : decode cX4_readAbort 73 = .ok (.invokevirtual 324, 3) := by decide +kernel
theorem dX4_readAbort_76 : decode cX4_readAbort 76 = .ok (.goto 5, 3) := by decide +kernel
theorem dX4_readAbort_79 : decode cX4_readAbort 79 = .ok (.iload 5, 2) := by decide +kernel
theorem dX4_readAbort_81 : decode cX4_readAbort 81 = .ok (.ireturn, 1) := by decide +kernel
theorem dX4_readWeak_0 : decode cX4_readWeak 0 = .ok (.aload_n 0, 1) := by decide +kernel
theorem dX4_readWeak_1 : decode cX4_readWeak 1 = .ok (.getfield 14, 3) := by decide +kernel
theorem dX4_readWeak_4 : decode cX4_readWeak 4 = .ok (.bipush 49, 2) := by decide +kernel
theorem dX4_readWeak_6 : decode cX4_readWeak 6 = .ok (.invokevirtual 114, 3) := by decide +kernel
theorem dX4_readWeak_9 : decode cX4_readWeak 9 = .ok (.aload_n 0, 1) := by decide +kernel
theorem dX4_readWeak_10 : decode cX4_readWeak 10 = .ok (.lconst 0, 1) := by decide +kernel
theorem dX4_readWeak_11 : decode cX4_readWeak 11 = .ok (.iload_n 1, 1) := by decide +kernel
theorem dX4_readWeak_12 : decode cX4_readWeak 12 = .ok (.invokevirtual 328, 3) := by decide +kernel
theorem dX4_readWeak_15 : decode cX4_readWeak 15 = .ok (.istore_n 2, 1) := by decide +kernel
theorem dX4_readWeak_16 : decode cX4_readWeak 16 = .ok (.aload_n 0, 1) := by decide +kernel
theorem dX4_readWeak_17 : decode cX4_readWeak 17 = .ok (.getfield 14, 3) := by decide +kernel
theorem dX4_readWeak_20 : decode cX4_readWeak 20 = .ok (.bipush 51, 2) := by decide +kernel
theorem dX4_readWeak_22 : decode cX4_readWeak 22 = .ok (.invokevirtual 114, 3) := by decide +kernel
theorem dX4_readWeak_25 : decode cX4_readWeak 25 = .ok (.aload_n 0, 1) := by decide +kernel
theorem dX4_readWeak_26 : decode cX4_readWeak 26 = .ok (.getfield 14, 3) := by decide +kernel
theorem dX4_readWeak_29 : decode cX4_readWeak 29 = .ok (.bipush 48, 2) := by decide +kernel
theorem dX4_readWeak_31 : decode cX4_readWeak 31 = .ok (.invokevirtual 134, 3) := by decide +kernel
theorem dX4_readWeak_34 : decode cX4_readWeak 34 = .ok (.istore_n 3, 1) := by decide +kernel
theorem dX4_readWeak_35 : decode cX4_readWeak 35 = .ok (.aload_n 0, 1) := by decide +kernel
theorem dX4_readWeak_36 : decode cX4_readWeak 36 = .ok (.invokevirtual 234, 3) := by decide +kernel
theorem dX4_readWeak_39 : decode cX4_readWeak 39 = .ok (.istore 4, 2) := by decide +kernel
theorem dX4_readWeak_41 : decode cX4_readWeak 41 = .ok (.aload_n 0, 1) := by decide +kernel
theorem dX4_readWeak_42 : decode cX4_readWeak 42 = .ok (.getfield 14, 3) := by decide +kernel
theorem dX4_readWeak_45 : decode cX4_readWeak 45 = .ok (.bipush 43, 2) := by decide +kernel
theorem dX4_readWeak_47 : decode cX4_readWeak 47 = .ok (.invokevirtual 114, 3) := by decide +kernel
theorem dX4_readWeak_50 : decode cX4_readWeak 50 = .ok (.aload_n 0, 1) := by decide +kernel
theorem dX4_readWeak_51 : decode cX4_readWeak 51 = .ok (.getfield 20, 3) := by decide +kernel
theorem dX4_readWeak_54 : decode cX4_readWeak 54 = .ok (.iload_n 2, 1) := by decide +kernel
theorem dX4_readWeak_55 : decode cX4_readWeak 55 = .ok (.iload 4, 2) := by decide +kernel
theorem dX4_readWeak_57 : decode cX4_readWeak 57 = .ok (.iload_n 3, 1) := by decide +kernel
theorem dX4_readWeak_58 : decode cX4_readWeak 58 = .ok (.invokevirtual 335, 3) := by decide +kernel
theorem dX4_readWeak_61 : decode cX4_readWeak 61 = .ok (.ireturn, 1) := by decide +kernel
theorem dX4_readSuspend_0 : decode cX4_readSuspend 0 = .ok (.aload_n 0, 1) := by decide +kernel
theorem dX4_readSuspend_1 : decode cX4_readSuspend 1 = .ok (.iload_n 1, 1) := by decide +kernel
theorem dX4_readSuspend_2 : decode cX4_readSuspend 2 = .ok (.invokevirtual 59, 3) := by decide +kernel
theorem dX4_readSuspend_5 : decode cX4_readSuspend 5 = .ok (.istore_n 2, 1) := by decide +kernel
theorem dX4_readSuspend_6 : decode cX4_readSuspend 6 = .ok (.aload_n 0, 1) := by decide +kernel
theorem dX4_readSuspend_7 : decode cX4_readSuspend 7 = .ok (.getfield 14, 3) := by decide +kernel
theorem dX4_readSuspend_10 : decode cX4_readSuspend 10 = .ok (.bipush 51, 2) := by decide +kernel
theorem dX4_readSuspend_12 : decode cX4_readSuspend 12 = .ok (.invokevirtual 114, 3) := by decide +kernel
theorem dX4_readSuspend_15 : decode cX4_readSuspend 15 = .ok (.aload_n 0, 1) := by decide +kernel
theorem dX4_readSuspend_16 : decode cX4_readSuspend 16 = .ok (.invokevirtual 234, 3) := by decide +kernel
theorem dX4_readSuspend_19 : decode cX4_readSuspend 19 = .ok (.istore_n 3, 1) := by decide +kernel
theorem dX4_readSuspend_20 : decode cX4_readSuspend 20 = .ok (.aload_n 0, 1) := by decide +kernel
theorem dX4_readSuspend_21 : decode cX4_readSuspend 21 = .ok (.getfield 14, 3) := by decide +kernel
theorem dX4_readSuspend_24 : decode cX4_readSuspend 24 = .ok (.bipush 43, 2) := by decide +kernel
theorem dX4_readSuspend_26 : decode cX4_readSuspend 26 = .ok (.invokevirtual 114, 3) := by decide +kernel
theorem dX4_readSuspend_29 : decode cX4_readSuspend 29 = .ok (.aload_n 0, 1) := by decide +kernel
theorem dX4_readSuspend_30 : decode cX4_readSuspend 30 = .ok (.getfield 20, 3) := by decide +kernel
theorem dX4_readSuspend_33 : decode cX4_readSuspend 33 = .ok (.iload_n 2, 1) := by decide +kernel
theorem dX4_readSuspend_34 : decode cX4_readSuspend 34 = .ok (.iload_n 3, 1) := by decide +kernel
theorem dX4_readSuspend_35 : decode cX4_readSuspend 35 = .ok (.invokevirtual 339, 3) := by decide +kernel
theorem dX4_readSuspend_38 : decode cX4_readSuspend 38 = .ok (.ireturn, 1) := by decide +kernel
theorem dX4_readEvery_0 : decode cX4_readEvery 0 = .ok (.aload_n 0, 1) := by decide +kernel
theorem dX4_readEvery_1 : decode cX4_readEvery 1 = .ok (.getfield 14, 3) := by decide +kernel
theorem dX4_readEvery_4 : decode cX4_readEvery 4 = .ok (.bipush 48, 2) := by decide +kernel
theorem dX4_readEvery_6 : decode cX4_readEvery 6 = .ok (.invokevirtual 134, 3) := by decide +kernel
theorem dX4_readEvery_9 : decode cX4_readEvery 9 = .ok (.istore_n 2, 1) := by decide +kernel
theorem dX4_readEvery_10 : decode cX4_readEvery 10 = .ok (.aload_n 0, 1) := by decide +kernel
theorem dX4_readEvery_11 : decode cX4_readEvery 11 = .ok (.invokevirtual 234, 3) := by decide +kernel
theorem dX4_readEvery_14 : decode cX4_readEvery 14 = .ok (.istore_n 3, 1) := by decide +kernel
theorem dX4_readEvery_15 : decode cX4_readEvery 15 = .ok (.aload_n 0, 1) := by decide +kernel
theorem dX4_readEvery_16 : decode cX4_readEvery 16 = .ok (.getfield 20, 3) := by decide +kernel
theorem dX4_readEvery_19 : decode cX4_readEvery 19 = .ok (.iload_n 3, 1) := by decide +kernel
theorem dX4_readEvery_20 : decode cX4_readEvery 20 = .ok (.iload_n 2, 1) := by decide +kernel
theorem dX4_readEvery_21 : decode cX4_readEvery 21 = .ok (.invokevirtual 240, 3) := by decide +kernel
theorem dX4_readEvery_24 : decode cX4_readEvery 24 = .ok (.istore 4, 2) := by decide +kernel
theorem dX4_readEvery_26 : decode cX4_readEvery 26 = .ok (.aload_n 0, 1) := by decide +kernel
theorem dX4_readEvery_27 : decode cX4_readEvery 27 = .ok (.getfield 14, 3) := by decide +kernel
theorem dX4_readEvery_30 : decode cX4_readEvery 30 = .ok (.bipush 54, 2) := by decide +kernel
theorem dX4_readEvery_32 : decode cX4_readEvery 32 = .ok (.invokevirtual 114, 3) := by decide +kernel
theorem dX4_readEvery_35 : decode cX4_readEvery 35 = .ok (.aload_n 0, 1) := by decide +kernel
theorem dX4_readEvery_36 : decode cX4_readEvery 36 = .ok (.lconst 0, 1) := by decide +kernel
theorem dX4_readEvery_37 : decode cX4_readEvery 37 = .ok (.iload_n 1, 1) := by decide +kernel
theorem dX4_readEvery_38 : decode cX4_readEvery 38 = .ok (.invokevirtual 328, 3) := by decide +kernel
theorem dX4_readEvery_41 : decode cX4_readEvery 41 = .ok (.istore 5, 2) := by decide +kernel
theorem dX4_readEvery_43 : decode cX4_readEvery 43 = .ok (.aload_n 0, 1) := by decide +kernel
theorem dX4_readEvery_44 : decode cX4_readEvery 44 = .ok (.getfield 14, 3) := by decide +kernel
theorem dX4_readEvery_47 : decode cX4_readEvery 47 = .ok (.bipush 43, 2) := by decide +kernel
theorem dX4_readEvery_49 : decode cX4_readEvery 49 = .ok (.invokevirtual 114, 3) := by decide +kernel
theorem dX4_readEvery_52 : decode cX4_readEvery 52 = .ok (.aload_n 0, 1) := by decide +kernel
theorem dX4_readEvery_53 : decode cX4_readEvery 53 = .ok (.getfield 20, 3) := by decide +kernel
theorem dX4_readEvery_56 : decode cX4_readEvery 56 = .ok (.iconst 5, 1) := by decide +kernel
theorem dX4_readEvery_57 : decode cX4_readEvery 57 = .ok (.iload 5, 2) := by decide +kernel
theorem dX4_readEvery_59 : decode cX4_readEvery 59 = .ok (.aload_n 0, 1) := by decide +kernel
theorem dX4_readEvery_60 : decode cX4_readEvery 60 = .ok (.getfield 20, 3) := by decide +kernel
theorem dX4_readEvery_63 : decode cX4_readEvery 63 = .ok (.invokevirtual 220, 3) := by decide +kernel
theorem dX4_readEvery_66 : decode cX4_readEvery 66 = .ok (.invokevirtual 342, 3) := by decide +kernel
theorem dX4_readEvery_69 : decode cX4_readEvery 69 = .ok (.istore 6, 2) := by decide +kernel
theorem dX4_readEvery_71 : decode cX4_readEvery 71 = .ok (.aload_n 0, 1) := by decide +kernel
theorem dX4_readEvery_72 : decode cX4_readEvery 72 = .ok (.getfield 20, 3) := by decide +kernel
theorem dX4_readEvery_75 : decode cX4_readEvery 75 = .ok (.iconst 5, 1) := by decide +kernel
theorem dX4_readEvery_76 : decode cX4_readEvery 76 = .ok (.iload 4, 2) := by decide +kernel
theorem dX4_readEvery_78 : decode cX4_readEvery 78 = .ok (.aload_n 0, 1) := by decide +kernel
theorem dX4_readEvery_79 : decode cX4_readEvery 79 = .ok (.getfield 20, 3) := by decide +kernel
theorem dX4_readEvery_82 : decode cX4_readEvery 82 = .ok (.bipush 6, 2) := by decide +kernel
theorem dX4_readEvery_84 : decode cX4_readEvery 84 = .ok (.aload_n 0, 1) := by decide +kernel
theorem dX4_readEvery_85 : decode cX4_readEvery 85 = .ok (.getfield 20, 3) := by decide +kernel
theorem dX4_readEvery_88 : decode cX4_readEvery 88 = .ok (.iload 6, 2) := by decide +kernel
theorem dX4_readEvery_90 : decode cX4_readEvery 90 = .ok (.iload_n 3, 1) := by decide +kernel
theorem dX4_readEvery_91 : decode cX4_readEvery 91 = .ok (.invokevirtual 332, 3) := by decide +kernel
theorem dX4_readEvery_94 : decode cX4_readEvery 94 = .ok (.invokevirtual 321, 3) := by decide +kernel
theorem dX4_readEvery_97 : decode cX4_readEvery 97 = .ok (.invokevirtual 342, 3) := by decide +kernel
theorem dX4_readEvery_100 : decode cX4_readEvery 100 = .ok (.ireturn, 1) := by decide +kernel
theorem dX4_readTrap_0 : decode cX4_readTrap 0 = .ok (.aload_n 0, 1) := by decide +kernel
theorem dX4_readTrap_1 : decode cX4_readTrap 1 = .ok (.getfield 14, 3) := by decide +kernel
theorem dX4_readTrap_4 : decode cX4_readTrap 4 = .ok (.getfield 126, 3) := by decide +kernel
theorem dX4_readTrap_7 : decode cX4_readTrap 7 = .ok (.lstore_n 2, 1) := by decide +kernel
theorem dX4_readTrap_8 : decode cX4_readTrap 8 = .ok (.aload_n 0, 1) := by decide +kernel
theorem dX4_readTrap_9 : decode cX4_readTrap 9 = .ok (.getfield 14, 3) := by decide +kernel
theorem dX4_readTrap_12 : decode cX4_readTrap 12 = .ok (.getfield 66, 3) := by decide +kernel
theorem dX4_readTrap_15 : decode cX4_readTrap 15 = .ok (.iconst 2, 1) := by decide +kernel
theorem dX4_readTrap_16 : decode cX4_readTrap 16 = .ok (.if_icmp .eq 14, 3) := by decide +kernel
theorem dX4_readTrap_19 : decode cX4_readTrap 19 = .ok (.aload_n 0, 1) := by decide +kernel
theorem dX4_readTrap_20 : decode cX4_readTrap 20 = .ok (.getfield 14, 3) := by decide +kernel
theorem dX4_readTrap_23 : decode cX4_readTrap 23 = .ok (.iconst 2, 1) := by decide +kernel
theorem dX4_readTrap_24 : decode cX4_readTrap 24 = .ok (.invokevirtual 69, 3) := by decide +kernel
theorem dX4_readTrap_27 : decode cX4_readTrap 27 = .ok (.goto 31, 3) := by decide +kernel
theorem dX4_readTrap_30 : decode cX4_readTrap 30 = .ok (.aload_n 0, 1) := by decide +kernel
theorem dX4_readTrap_31 : decode cX4_readTrap 31 = .ok (.getfield 31, 3) := by decide +kernel
theorem dX4_readTrap_34 : decode cX4_readTrap 34 = .ok (.lload_n 2, 1) := by decide +kernel
theorem dX4_readTrap_35 : decode cX4_readTrap 35 = .ok (.invokevirtual 152, 3) := by decide +kernel
theorem dX4_readTrap_38 : decode cX4_readTrap 38 = .ok (.ifCond .ne 12, 3) := by decide +kernel
theorem dX4_readTrap_41 : decode cX4_readTrap 41 = .ok (.aload_n 0, 1) := by decide +kernel
theorem dX4_readTrap_42 : decode cX4_readTrap 42 = .ok (.lload_n 2, 1) := by decide +kernel
theorem dX4_readTrap_43 : decode cX4_readTrap 43 = .ok (.invokevirtual 309, 3) := by decide +kernel
theorem dX4_readTrap_46 : decode cX4_readTrap 46 = .ok (.iconst (-1), 1) := by decide +kernel
theorem dX4_readTrap_47 : decode cX4_readTrap 47 = .ok (.if_icmp .eq 11, 3) := by decide +kernel
theorem dX4_readTrap_50 : decode cX4_readTrap 50 = .ok (.aload_n 0, 1) := by decide +kernel
theorem dX4_readTrap_51 : decode cX4_readTrap 51 = .ok (.getfield 14, 3) := by decide +kernel
theorem dX4_readTrap_54 : decode cX4_readTrap 54 = .ok (.iconst 3, 1) := by decide +kernel
theorem dX4_readTrap_55 : decode cX4_readTrap 55 = .ok (.invokevirtual 69, 3) := by decide +kernel
theorem dX4_readTrap_58 : decode cX4_readTrap 58 = .ok (.aload_n 0, 1) := by decide +kernel
theorem dX4_readTrap_59 : decode cX4_readTrap 59 = .ok (.getfield 14, 3) := by decide +kernel
theorem dX4_readTrap_62 : decode cX4_readTrap 62 = .ok (.invokevirtual 117, 3) := by decide +kernel
theorem dX4_readTrap_65 : decode cX4_readTrap 65 = .ok (.aload_n 0, 1) := by decide +kernel
theorem dX4_readTrap_66 : decode cX4_readTrap 66 = .ok (.getfield 14, 3) := by decide +kernel
theorem dX4_readTrap_69 : decode cX4_readTrap 69 = .ok (.bipush 56, 2) := by decide +kernel
theorem dX4_readTrap_71 : decode cX4_readTrap 71 = .ok (.invokevirtual 114, 3) := by decide +kernel
theorem dX4_readTrap_74 : decode cX4_readTrap 74 = .ok (.aload_n 0, 1) := by decide +kernel
theorem dX4_readTrap_75 : decode cX4_readTrap 75 = .ok (.lload_n 2, 1) := by decide +kernel
theorem dX4_readTrap_76 : decode cX4_readTrap 76 = .ok (.iload_n 1, 1) := by decide +kernel
theorem dX4_readTrap_77 : decode cX4_readTrap 77 = .ok (.invokevirtual 328, 3) := by decide +kernel
theorem dX4_readTrap_80 : decode cX4_readTrap 80 = .ok (.istore 4, 2) := by decide +kernel
theorem dX4_readTrap_82 : decode cX4_readTrap 82 = .ok (.aload_n 0, 1) := by decide +kernel
theorem dX4_readTrap_83 : decode cX4_readTrap 83 = .ok (.getfield 14, 3) := by decide +kernel
theorem dX4_readTrap_86 : decode cX4_readTrap 86 = .ok (.bipush 43, 2) := by decide +kernel
theorem dX4_readTrap_88 : decode cX4_readTrap 88 = .ok (.invokevirtual 114, 3) := by decide +kernel
theorem dX4_readTrap_91 : decode cX4_readTrap 91 = .ok (.aload_n 0, 1) := by decide +kernel
theorem dX4_readTrap_92 : decode cX4_readTrap 92 = .ok (.getfield 20, 3) := by decide +kernel
theorem dX4_readTrap_95 : decode cX4_readTrap 95 = .ok (.bipush 9, 2) := by decide +kernel
theorem dX4_readTrap_97 : decode cX4_readTrap 97 = .ok (.iload 4, 2) := by decide +kernel
theorem dX4_readTrap_99 : decode cX4_readTrap 99 = .ok (.invokevirtual 321, 3) := by decide +kernel
theorem dX4_readTrap_102 : decode cX4_readTrap 102 = .ok (.ireturn, 1) := by decide +kernel
theorem dX4_readTrapped_0 : decode cX4_readTrapped 0 = .ok (.aload_n 0, 1) := by decide +kernel
theorem dX4_readTrapped_1 : decode cX4_readTrapped 1 = .ok (.getfield 35, 3) := by decide +kernel
theorem dX4_readTrapped_4 : decode cX4_readTrapped 4 = .ok (.bipush 16, 2) := by decide +kernel
theorem dX4_readTrapped_6 : decode cX4_readTrapped 6 = .ok (.if_icmp .lt 14, 3) := by decide +kernel
theorem dX4_readTrapped_9 : decode cX4_readTrapped 9 = .ok (.aload_n 0, 1) := by decide +kernel
theorem dX4_readTrapped_10 : decode cX4_readTrapped 10 = .ok (.getfield 14, 3) := by decide +kernel
theorem dX4_readTrapped_13 : decode cX4_readTrapped 13 = .ok (.bipush 6, 2) := by decide +kernel
theorem dX4_readTrapped_15 : decode cX4_readTrapped 15 = .ok (.invokevirtual 69, 3) := by decide +kernel
theorem dX4_readTrapped_18 : decode cX4_readTrapped 18 = .ok (.iconst 0, 1) := by decide +kernel
theorem dX4_readTrapped_19 : decode cX4_readTrapped 19 = .ok (.ireturn, 1) := by decide +kernel
theorem dX4_readTrapped_20 : decode cX4_readTrapped 20 = .ok (.aload_n 0, 1) := by decide +kernel
theorem dX4_readTrapped_21 : decode cX4_readTrapped 21 = .ok (.getfield 24, 3) := by decide +kernel
theorem dX4_readTrapped_24 : decode cX4_readTrapped 24 = .ok (.aload_n 0, 1) := by decide +kernel
theorem dX4_readTrapped_25 : decode cX4_readTrapped 25 = .ok (.getfield 35, 3) := by decide +kernel
theorem dX4_readTrapped_28 : decode cX4_readTrapped 28 = .ok (.lload_n 1, 1) := by decide +kernel
theorem dX4_readTrapped_29 : decode cX4_readTrapped 29 = .ok (.lastore, 1) := by decide +kernel
theorem dX4_readTrapped_30 : decode cX4_readTrapped 30 = .ok (.aload_n 0, 1) := by decide +kernel
theorem dX4_readTrapped_31 : decode cX4_readTrapped 31 = .ok (.dup, 1) := by decide +kernel
theorem dX4_readTrapped_32 : decode cX4_readTrapped 32 = .ok (.getfield 35, 3) := by decide +kernel
theorem dX4_readTrapped_35 : decode cX4_readTrapped 35 = .ok (.iconst 1, 1) := by decide +kernel
theorem dX4_readTrapped_36 : decode cX4_readTrapped 36 = .ok (.iadd, 1) := by decide +kernel
theorem dX4_readTrapped_37 : decode cX4_readTrapped 37 = .ok (.putfield 35, 3) := by decide +kernel
theorem dX4_readTrapped_40 : decode cX4_readTrapped 40 = .ok (.aload_n 0, 1) := by decide +kernel
theorem dX4_readTrapped_41 : decode cX4_readTrapped 41 = .ok (.iload_n 3, 1) := by decide +kernel
theorem dX4_readTrapped_42 : decode cX4_readTrapped 42 = .ok (.invokevirtual 59, 3) := by decide +kernel
theorem dX4_readTrapped_45 : decode cX4_readTrapped 45 = .ok (.istore 4, 2) := by decide +kernel
theorem dX4_readTrapped_47 : decode cX4_readTrapped 47 = .ok (.aload_n 0, 1) := by decide +kernel
theorem dX4_readTrapped_48 : decode cX4_readTrapped 48 = .ok (.dup, 1) := by decide +kernel
theorem dX4_readTrapped_49 : decode cX4_readTrapped 49 = .ok (.getfield 35, 3) := by decide +kernel
theorem dX4_readTrapped_52 : decode cX4_readTrapped 52 = .ok (.iconst 1, 1) := by decide +kernel
theorem dX4_readTrapped_53 : decode cX4_readTrapped 53 = .ok (.isub, 1) := by decide +kernel
theorem dX4_readTrapped_54 : decode cX4_readTrapped 54 = .ok (.putfield 35, 3) := by decide +kernel
theorem dX4_readTrapped_57 : decode cX4_readTrapped 57 = .ok (.iload 4, 2) := by decide +kernel
theorem dX4_readTrapped_59 : decode cX4_readTrapped 59 = .ok (.ireturn, 1) := by decide +kernel
theorem dX4_readBranches_0 : decode cX4_readBranches 0 = .ok (.aload_n 0, 1) := by decide +kernel
theorem dX4_readBranches_1 : decode cX4_readBranches 1 = .ok (.getfield 42, 3) := by decide +kernel
theorem dX4_readBranches_4 : decode cX4_readBranches 4 = .ok (.istore_n 3, 1) := by decide +kernel
theorem dX4_readBranches_5 : decode cX4_readBranches 5 = .ok (.aload_n 0, 1) := by decide +kernel
theorem dX4_readBranches_6 : decode cX4_readBranches 6 = .ok (.getfield 45, 3) := by decide +kernel
theorem dX4_readBranches_9 : decode cX4_readBranches 9 = .ok (.istore 4, 2) := by decide +kernel
theorem dX4_readBranches_11 : decode cX4_readBranches 11 = .ok (.iconst 0, 1) := by decide +kernel
theorem dX4_readBranches_12 : decode cX4_readBranches 12 = .ok (.istore 5, 2) := by decide +kernel
theorem dX4_readBranches_14 : decode cX4_readBranches 14 = .ok (.iconst 0, 1) := by decide +kernel
theorem dX4_readBranches_15 : decode cX4_readBranches 15 = .ok (.istore 6, 2) := by decide +kernel
theorem dX4_readBranches_17 : decode cX4_readBranches 17 = .ok (.aload_n 0, 1) := by decide +kernel
theorem dX4_readBranches_18 : decode cX4_readBranches 18 = .ok (.getfield 20, 3) := by decide +kernel
theorem dX4_readBranches_21 : decode cX4_readBranches 21 = .ok (.bipush 8, 2) := by decide +kernel
theorem dX4_readBranches_23 : decode cX4_readBranches 23 = .ok (.invokevirtual 159, 3) := by decide +kernel
theorem dX4_readBranches_26 : decode cX4_readBranches 26 = .ok (.istore 7, 2) := by decide +kernel
theorem dX4_readBranches_28 : decode cX4_readBranches 28 = .ok (.iconst 0, 1) := by decide +kernel
theorem dX4_readBranches_29 : decode cX4_readBranches 29 = .ok (.istore 8, 2) := by decide +kernel
theorem dX4_readBranches_31 : decode cX4_readBranches 31 = .ok (.iload 8, 2) := by decide +kernel
theorem dX4_readBranches_33 : decode cX4_readBranches 33 = .ok (.bipush 8, 2) := by decide +kernel
theorem dX4_readBranches_35 : decode cX4_readBranches 35 = .ok (.if_icmp .ge 118, 3) := by decide +kernel
theorem dX4_readBranches_38 : decode cX4_readBranches 38 = .ok (.aload_n 0, 1) := by decide +kernel
theorem dX4_readBranches_39 : decode cX4_readBranches 39 = .ok (.iconst 0, 1) := by decide +kernel
theorem dX4_readBranches_40 : decode cX4_readBranches 40 = .ok (.putfield 42, 3) := by decide +kernel
theorem dX4_readBranches_43 : decode cX4_readBranches 43 = .ok (.aload_n 0, 1) := by decide +kernel
theorem dX4_readBranches_44 : decode cX4_readBranches 44 = .ok (.iconst 0, 1) := by decide +kernel
theorem dX4_readBranches_45 : decode cX4_readBranches 45 = .ok (.putfield 45, 3) := by decide +kernel
theorem dX4_readBranches_48 : decode cX4_readBranches 48 = .ok (.aload_n 0, 1) := by decide +kernel
theorem dX4_readBranches_49 : decode cX4_readBranches 49 = .ok (.getfield 20, 3) := by decide +kernel
theorem dX4_readBranches_52 : decode cX4_readBranches 52 = .ok (.iload 7, 2) := by decide +kernel
theorem dX4_readBranches_54 : decode cX4_readBranches 54 = .ok (.aload_n 0, 1) := by decide +kernel
theorem dX4_readBranches_55 : decode cX4_readBranches 55 = .ok (.iload_n 2, 1) := by decide +kernel
theorem dX4_readBranches_56 : decode cX4_readBranches 56 = .ok (.invokevirtual 59, 3) := by decide +kernel
theorem dX4_readBranches_59 : decode cX4_readBranches 59 = .ok (.invokevirtual 165, 3) := by decide +kernel
theorem dX4_readBranches_62 : decode cX4_readBranches 62 = .ok (.aload_n 0, 1) := by decide +kernel
theorem dX4_readBranches_63 : decode cX4_readBranches 63 = .ok (.getfield 42, 3) := by decide +kernel
theorem dX4_readBranches_66 : decode cX4_readBranches 66 = .ok (.iload 5, 2) := by decide +kernel
theorem dX4_readBranches_68 : decode cX4_readBranches 68 = .ok (.iload 6, 2) := by decide +kernel
theorem dX4_readBranches_70 : decode cX4_readBranches 70 = .ok (.ior, 1) := by decide +kernel
theorem dX4_readBranches_71 : decode cX4_readBranches 71 = .ok (.iand, 1) := by decide +kernel
theorem dX4_readBranches_72 : decode cX4_readBranches 72 = .ok (.ifCond .ne 13, 3) := by decide +kernel
theorem dX4_readBranches_75 : decode cX4_readBranches 75 = .ok (.aload_n 0, 1) := by decide +kernel
theorem dX4_readBranches_76 : decode cX4_readBranches 76 = .ok (.getfield 45, 3) := by decide +kernel
theorem dX4_readBranches_79 : decode cX4_readBranches 79 = .ok (.iload 5, 2) := by decide +kernel
theorem dX4_readBranches_81 : decode cX4_readBranches 81 = .ok (.iand, 1) := by decide +kernel
theorem dX4_readBranches_82 : decode cX4_readBranches 82 = .ok (.ifCond .eq 9, 3) := by decide +kernel
theorem dX4_readBranches_85 : decode cX4_readBranches 85 = .ok (.aload_n 1, 1) := by decide +kernel
theorem dX4_readBranches_86 : decode cX4_readBranches 86 = .ok (.bipush 8, 2) := by decide +kernel
theorem dX4_readBranches_88 : decode cX4_readBranches 88 = .ok (.putfield 98, 3) := by decide +kernel
theorem dX4_readBranches_91 : decode cX4_readBranches 91 = .ok (.iload 5, 2) := by decide +kernel
theorem dX4_readBranches_93 : decode cX4_readBranches 93 = .ok (.aload_n 0, 1) := by decide +kernel
theorem dX4_readBranches_94 : decode cX4_readBranches 94 = .ok (.getfield 42, 3) := by decide +kernel
theorem dX4_readBranches_97 : decode cX4_readBranches 97 = .ok (.ior, 1) := by decide +kernel
theorem dX4_readBranches_98 : decode cX4_readBranches 98 = .ok (.istore 5, 2) := by decide +kernel
theorem dX4_readBranches_100 : decode cX4_readBranches 100 = .ok (.iload 6, 2) := by decide +kernel
theorem dX4_readBranches_102 : decode cX4_readBranches 102 = .ok (.aload_n 0, 1) := by decide +kernel
theorem dX4_readBranches_103 : decode cX4_readBranches 103 = .ok (.getfield 45, 3) := by decide +kernel
theorem dX4_readBranches_106 : decode cX4_readBranches 106 = .ok (.ior, 1) := by decide +kernel
theorem dX4_readBranches_107 : decode cX4_readBranches 107 = .ok (.istore 6, 2) := by decide +kernel
theorem dX4_readBranches_109 : decode cX4_readBranches 109 = .ok (.aload_n 0, 1) := by decide +kernel
theorem dX4_readBranches_110 : decode cX4_readBranches 110 = .ok (.getfield 14, 3) := by decide +kernel
theorem dX4_readBranches_113 : decode cX4_readBranches 113 = .ok (.getfield 66, 3) := by decide +kernel
theorem dX4_readBranches_116 : decode cX4_readBranches 116 = .ok (.bipush 6, 2) := by decide +kernel
theorem dX4_readBranches_118 : decode cX4_readBranches 118 = .ok (.if_icmp .eq 6, 3) := by decide +kernel
theorem dX4_readBranches_121 : decode cX4_readBranches 121 = .ok (.goto 32, 3) := by decide +kernel
theorem dX4_readBranches_124 : decode cX4_readBranches 124 = .ok (.iload 8, 2) := by decide +kernel
theorem dX4_readBranches_126 : decode cX4_readBranches 126 = .ok (.bipush 7, 2) := by decide +kernel
theorem dX4_readBranches_128 : decode cX4_readBranches 128 = .ok (.if_icmp .ne 12, 3) := by decide +kernel
theorem dX4_readBranches_131 : decode cX4_readBranches 131 = .ok (.aload_n 0, 1) := by decide +kernel
theorem dX4_readBranches_132 : decode cX4_readBranches 132 = .ok (.getfield 14, 3) := by decide +kernel
theorem dX4_readBranches_135 : decode cX4_readBranches 135 = .ok (.bipush 6, 2) := by decide +kernel
theorem dX4_readBranches_137 : decode cX4_readBranches 137 = .ok (.invokevirtual 69, 3) := by decide +kernel
theorem dX4_readBranches_140 : decode cX4_readBranches 140 = .ok (.aload_n 0, 1) := by decide +kernel
theorem dX4_readBranches_141 : decode cX4_readBranches 141 = .ok (.getfield 14, 3) := by decide +kernel
theorem dX4_readBranches_144 : decode cX4_readBranches 144 = .ok (.invokevirtual 117, 3) := by decide +kernel
theorem dX4_readBranches_147 : decode cX4_readBranches 147 = .ok (.iinc 8 1, 3) := by decide +kernel
theorem dX4_readBranches_150 : decode cX4_readBranches 150 = .ok (.goto (-119), 3) := by decide +kernel
theorem dX4_readBranches_153 : decode cX4_readBranches 153 = .ok (.aload_n 0, 1) := by decide +kernel
theorem dX4_readBranches_154 : decode cX4_readBranches 154 = .ok (.iload_n 3, 1) := by decide +kernel
theorem dX4_readBranches_155 : decode cX4_readBranches 155 = .ok (.iload 5, 2) := by decide +kernel
theorem dX4_readBranches_157 : decode cX4_readBranches 157 = .ok (.ior, 1) := by decide +kernel
theorem dX4_readBranches_158 : decode cX4_readBranches 158 = .ok (.putfield 42, 3) := by decide +kernel
theorem dX4_readBranches_161 : decode cX4_readBranches 161 = .ok (.aload_n 0, 1) := by decide +kernel
theorem dX4_readBranches_162 : decode cX4_readBranches 162 = .ok (.iload 4, 2) := by decide +kernel
theorem dX4_readBranches_164 : decode cX4_readBranches 164 = .ok (.iload 6, 2) := by decide +kernel
theorem dX4_readBranches_166 : decode cX4_readBranches 166 = .ok (.ior, 1) := by decide +kernel
theorem dX4_readBranches_167 : decode cX4_readBranches 167 = .ok (.putfield 45, 3) := by decide +kernel
theorem dX4_readBranches_170 : decode cX4_readBranches 170 = .ok (.aload_n 0, 1) := by decide +kernel
theorem dX4_readBranches_171 : decode cX4_readBranches 171 = .ok (.getfield 14, 3) := by decide +kernel
theorem dX4_readBranches_174 : decode cX4_readBranches 174 = .ok (.bipush 18, 2) := by decide +kernel
theorem dX4_readBranches_176 : decode cX4_readBranches 176 = .ok (.invokevirtual 114, 3) := by decide +kernel
theorem dX4_readBranches_179 : decode cX4_readBranches 179 = .ok (.iload 7, 2) := by decide +kernel
theorem dX4_readBranches_181 : decode cX4_readBranches 181 = .ok (.ireturn, 1) := by decide +kernel
theorem dX4_readCondition_0 : decode cX4_readCondition 0 = .ok (.aload_n 0, 1) := by decide +kernel
theorem dX4_readCondition_1 : decode cX4_readCondition 1 = .ok (.invokevirtual 345, 3) := by decide +kernel
theorem dX4_readCondition_4 : decode cX4_readCondition 4 = .ok (.istore_n 1, 1) := by decide +kernel
theorem dX4_readCondition_5 : decode cX4_readCondition 5 = .ok (.iconst 0, 1) := by decide +kernel
theorem dX4_readCondition_6 : decode cX4_readCondition 6 = .ok (.istore_n 2, 1) := by decide +kernel
theorem dX4_readCondition_7 : decode cX4_readCondition 7 = .ok (.iload_n 2, 1) := by decide +kernel
theorem dX4_readCondition_8 : decode cX4_readCondition 8 = .ok (.sipush 800, 3) := by decide +kernel
theorem dX4_readCondition_11 : decode cX4_readCondition 11 = .ok (.if_icmp .ge 37, 3) := by decide +kernel
theorem dX4_readCondition_14 : decode cX4_readCondition 14 = .ok (.aload_n 0, 1) := by decide +kernel
theorem dX4_readCondition_15 : decode cX4_readCondition 15 = .ok (.getfield 14, 3) := by decide +kernel
theorem dX4_readCondition_18 : decode cX4_readCondition 18 = .ok (.bipush 60, 2) := by decide +kernel
theorem dX4_readCondition_20 : decode cX4_readCondition 20 = .ok (.invokevirtual 134, 3) := by decide +kernel
theorem dX4_readCondition_23 : decode cX4_readCondition 23 = .ok (.ifCond .eq 25, 3) := by decide +kernel
theorem dX4_readCondition_26 : decode cX4_readCondition 26 = .ok (.aload_n 0, 1) := by decide +kernel
theorem dX4_readCondition_27 : decode cX4_readCondition 27 = .ok (.getfield 31, 3) := by decide +kernel
theorem dX4_readCondition_30 : decode cX4_readCondition 30 = .ok (.getfield 348, 3) := by decide +kernel
theorem dX4_readCondition_33 : decode cX4_readCondition 33 = .ok (.iload_n 1, 1) := by decide +kernel
theorem dX4_readCondition_34 : decode cX4_readCondition 34 = .ok (.aload_n 0, 1) := by decide +kernel
theorem dX4_readCondition_35 : decode cX4_readCondition 35 = .ok (.invokevirtual 345, 3) := by decide +kernel
theorem dX4_readCondition_38 : decode cX4_readCondition 38 = .ok (.invokevirtual 352, 3) := by decide +kernel
theorem dX4_readCondition_41 : decode cX4_readCondition 41 = .ok (.istore_n 1, 1) := by decide +kernel
theorem dX4_readCondition_42 : decode cX4_readCondition 42 = .ok (.iinc 2 1, 3) := by decide +kernel
theorem dX4_readCondition_45 : decode cX4_readCondition 45 = .ok (.goto (-38), 3) := by decide +kernel
theorem dX4_readCondition_48 : decode cX4_readCondition 48 = .ok (.iload_n 1, 1) := by decide +kernel
theorem dX4_readCondition_49 : decode cX4_readCondition 49 = .ok (.ireturn, 1) := by decide +kernel
theorem dX4_readAnd_0 : decode cX4_readAnd 0 = .ok (.aload_n 0, 1) := by decide +kernel
theorem dX4_readAnd_1 : decode cX4_readAnd 1 = .ok (.invokevirtual 357, 3) := by decide +kernel
theorem dX4_readAnd_4 : decode cX4_readAnd 4 = .ok (.istore_n 1, 1) := by decide +kernel
theorem dX4_readAnd_5 : decode cX4_readAnd 5 = .ok (.iconst 0, 1) := by decide +kernel
theorem dX4_readAnd_6 : decode cX4_readAnd 6 = .ok (.istore_n 2, 1) := by decide +kernel
theorem dX4_readAnd_7 : decode cX4_readAnd 7 = .ok (.iload_n 2, 1) := by decide +kernel
theorem dX4_readAnd_8 : decode cX4_readAnd 8 = .ok (.sipush 800, 3) := by decide +kernel
theorem dX4_readAnd_11 : decode cX4_readAnd 11 = .ok (.if_icmp .ge 37, 3) := by decide +kernel
theorem dX4_readAnd_14 : decode cX4_readAnd 14 = .ok (.aload_n 0, 1) := by decide +kernel
theorem dX4_readAnd_15 : decode cX4_readAnd 15 = .ok (.getfield 14, 3) := by decide +kernel
theorem dX4_readAnd_18 : decode cX4_readAnd 18 = .ok (.bipush 59, 2) := by decide +kernel
theorem dX4_readAnd_20 : decode cX4_readAnd 20 = .ok (.invokevirtual 134, 3) := by decide +kernel
theorem dX4_readAnd_23 : decode cX4_readAnd 23 = .ok (.ifCond .eq 25, 3) := by decide +kernel
theorem dX4_readAnd_26 : decode cX4_readAnd 26 = .ok (.aload_n 0, 1) := by decide +kernel
theorem dX4_readAnd_27 : decode cX4_readAnd 27 = .ok (.getfield 31, 3) := by decide +kernel
theorem dX4_readAnd_30 : decode cX4_readAnd 30 = .ok (.getfield 348, 3) := by decide +kernel
theorem dX4_readAnd_33 : decode cX4_readAnd 33 = .ok (.iload_n 1, 1) := by decide +kernel
theorem dX4_readAnd_34 : decode cX4_readAnd 34 = .ok (.aload_n 0, 1) := by decide +kernel
theorem dX4_readAnd_35 : decode cX4_readAnd 35 = .ok (.invokevirtual 357, 3) := by decide +kernel
theorem dX4_readAnd_38 : decode cX4_readAnd 38 = .ok (.invokevirtual 360, 3) := by decide +kernel
theorem dX4_readAnd_41 : decode cX4_readAnd 41 = .ok (.istore_n 1, 1) := by decide +kernel
theorem dX4_readAnd_42 : decode cX4_readAnd 42 = .ok (.iinc 2 1, 3) := by decide +kernel
theorem dX4_readAnd_45 : decode cX4_readAnd 45 = .ok (.goto (-38), 3) := by decide +kernel
theorem dX4_readAnd_48 : decode cX4_readAnd 48 = .ok (.iload_n 1, 1) := by decide +kernel
theorem dX4_readAnd_49 : decode cX4_readAnd 49 = .ok (.ireturn, 1) := by decide +kernel
theorem dX4_readNot_0 : decode cX4_readNot 0 = .ok (.aload_n 0, 1) := by decide +kernel
theorem dX4_readNot_1 : decode cX4_readNot 1 = .ok (.getfield 14, 3) := by decide +kernel
theorem dX4_readNot_4 : decode cX4_readNot 4 = .ok (.getfield 66, 3) := by decide +kernel
theorem dX4_readNot_7 : decode cX4_readNot 7 = .ok (.bipush 61, 2) := by decide +kernel
theorem dX4_readNot_9 : decode cX4_readNot 9 = .ok (.if_icmp .ne 48, 3) := by decide +kernel
theorem dX4_readNot_12 : decode cX4_readNot 12 = .ok (.aload_n 0, 1) := by decide +kernel
theorem dX4_readNot_13 : decode cX4_readNot 13 = .ok (.getfield 14, 3) := by decide +kernel
theorem dX4_readNot_16 : decode cX4_readNot 16 = .ok (.invokevirtual 193, 3) := by decide +kernel
theorem dX4_readNot_19 : decode cX4_readNot 19 = .ok (.aload_n 0, 1) := by decide +kernel
theorem dX4_readNot_20 : decode cX4_readNot 20 = .ok (.getfield 14, 3) := by decide +kernel
theorem dX4_readNot_23 : decode cX4_readNot 23 = .ok (.invokevirtual 117, 3) := by decide +kernel
theorem dX4_readNot_26 : decode cX4_readNot 26 = .ok (.aload_n 0, 1) := by decide +kernel
theorem dX4_readNot_27 : decode cX4_readNot 27 = .ok (.getfield 14, 3) := by decide +kernel
theorem dX4_readNot_30 : decode cX4_readNot 30 = .ok (.getfield 79, 3) := by decide +kernel
theorem dX4_readNot_33 : decode cX4_readNot 33 = .ok (.ifCond .ne 10, 3) := by decide +kernel
theorem dX4_readNot_36 : decode cX4_readNot 36 = .ok (.aload_n 0, 1) := by decide +kernel
theorem dX4_readNot_37 : decode cX4_readNot 37 = .ok (.invokevirtual 357, 3) := by decide +kernel
theorem dX4_readNot_40 : decode cX4_readNot 40 = .ok (.goto 4, 3) := by decide +kernel
theorem dX4_readNot_43 : decode cX4_readNot 43 = .ok (.iconst 0, 1) := by decide +kernel
theorem dX4_readNot_44 : decode cX4_readNot 44 = .ok (.istore_n 1, 1) := by decide +kernel
theorem dX4_readNot_45 : decode cX4_readNot 45 = .ok (.aload_n 0, 1) := by decide +kernel
theorem dX4_readNot_46 : decode cX4_readNot 46 = .ok (.getfield 14, 3) := by decide +kernel
theorem dX4_readNot_49 : decode cX4_readNot 49 = .ok (.invokevirtual 207, 3) := by decide +kernel
theorem dX4_readNot_52 : decode cX4_readNot 52 = .ok (.iload_n 1, 1) := by decide +kernel
theorem dX4_readNot_53 : decode cX4_readNot 53 = .ok (.invokestatic 363, 3) := by decide +kernel
theorem dX4_readNot_56 : decode cX4_readNot 56 = .ok (.ireturn, 1) := by decide +kernel
theorem dX4_readNot_57 : decode cX4_readNot 57 = .ok (.aload_n 0, 1) := by decide +kernel
theorem dX4_readNot_58 : decode cX4_readNot 58 = .ok (.getfield 14, 3) := by decide +kernel
theorem dX4_readNot_61 : decode cX4_readNot 61 = .ok (.getfield 66, 3) := by decide +kernel
theorem dX4_readNot_64 : decode cX4_readNot 64 = .ok (.bipush 15, 2) := by decide +kernel
theorem dX4_readNot_66 : decode cX4_readNot 66 = .ok (.if_icmp .ne 54, 3) := by decide +kernel
theorem dX4_readNot_69 : decode cX4_readNot 69 = .ok (.aload_n 0, 1) := by decide +kernel
theorem dX4_readNot_70 : decode cX4_readNot 70 = .ok (.getfield 14, 3) := by decide +kernel
theorem dX4_readNot_73 : decode cX4_readNot 73 = .ok (.invokevirtual 193, 3) := by decide +kernel
theorem dX4_readNot_76 : decode cX4_readNot 76 = .ok (.aload_n 0, 1) := by decide +kernel
theorem dX4_readNot_77 : decode cX4_readNot 77 = .ok (.getfield 14, 3) := by decide +kernel
theorem dX4_readNot_80 : decode cX4_readNot 80 = .ok (.invokevirtual 117, 3) := by decide +kernel
theorem dX4_readNot_83 : decode cX4_readNot 83 = .ok (.aload_n 0, 1) := by decide +kernel
theorem dX4_readNot_84 : decode cX4_readNot 84 = .ok (.getfield 14, 3) := by decide +kernel
theorem dX4_readNot_87 : decode cX4_readNot 87 = .ok (.getfield 79, 3) := by decide +kernel
theorem dX4_readNot_90 : decode cX4_readNot 90 = .ok (.ifCond .ne 10, 3) := by decide +kernel
theorem dX4_readNot_93 : decode cX4_readNot 93 = .ok (.aload_n 0, 1) := by decide +kernel
theorem dX4_readNot_94 : decode cX4_readNot 94 = .ok (.invokevirtual 234, 3) := by decide +kernel
theorem dX4_readNot_97 : decode cX4_readNot 97 = .ok (.goto 4, 3) := by decide +kernel
theorem dX4_readNot_100 : decode cX4_readNot 100 = .ok (.iconst 0, 1) := by decide +kernel
theorem dX4_readNot_101 : decode cX4_readNot 101 = .ok (.istore_n 1, 1) := by decide +kernel
theorem dX4_readNot_102 : decode cX4_readNot 102 = .ok (.aload_n 0, 1) := by decide +kernel
theorem dX4_readNot_103 : decode cX4_readNot 103 = .ok (.getfield 14, 3) := by decide +kernel
theorem dX4_readNot_106 : decode cX4_readNot 106 = .ok (.bipush 16, 2) := by decide +kernel
theorem dX4_readNot_108 : decode cX4_readNot 108 = .ok (.invokevirtual 114, 3) := by decide +kernel
theorem dX4_readNot_111 : decode cX4_readNot 111 = .ok (.aload_n 0, 1) := by decide +kernel
theorem dX4_readNot_112 : decode cX4_readNot 112 = .ok (.getfield 14, 3) := by decide +kernel
theorem dX4_readNot_115 : decode cX4_readNot 115 = .ok (.invokevirtual 207, 3) := by decide +kernel
theorem dX4_readNot_118 : decode cX4_readNot 118 = .ok (.iload_n 1, 1) := by decide +kernel
theorem dX4_readNot_119 : decode cX4_readNot 119 = .ok (.ireturn, 1) := by decide +kernel
theorem dX4_readNot_120 : decode cX4_readNot 120 = .ok (.aload_n 0, 1) := by decide +kernel
theorem dX4_readNot_121 : decode cX4_readNot 121 = .ok (.getfield 14, 3) := by decide +kernel
theorem dX4_readNot_124 : decode cX4_readNot 124 = .ok (.bipush 62, 2) := by decide +kernel
theorem dX4_readNot_126 : decode cX4_readNot 126 = .ok (.invokevirtual 134, 3) := by decide +kernel
theorem dX4_readNot_129 : decode cX4_readNot 129 = .ok (.istore_n 1, 1) := by decide +kernel
theorem dX4_readNot_130 : decode cX4_readNot 130 = .ok (.aload_n 0, 1) := by decide +kernel
theorem dX4_readNot_131 : decode cX4_readNot 131 = .ok (.invokevirtual 300, 3) := by decide +kernel
theorem dX4_readNot_134 : decode cX4_readNot 134 = .ok (.istore_n 2, 1) := by decide +kernel
theorem dX4_readNot_135 : decode cX4_readNot 135 = .ok (.aload_n 0, 1) := by decide +kernel
theorem dX4_readNot_136 : decode cX4_readNot 136 = .ok (.getfield 14, 3) := by decide +kernel
theorem dX4_readNot_139 : decode cX4_readNot 139 = .ok (.invokevirtual 117, 3) := by decide +kernel
theorem dX4_readNot_142 : decode cX4_readNot 142 = .ok (.iload_n 2, 1) := by decide +kernel
theorem dX4_readNot_143 : decode cX4_readNot 143 = .ok (.iconst (-1), 1) := by decide +kernel
theorem dX4_readNot_144 : decode cX4_readNot 144 = .ok (.if_icmp .ne 5, 3) := by decide +kernel
theorem dX4_readNot_147 : decode cX4_readNot 147 = .ok (.iconst 0, 1) := by decide +kernel
theorem dX4_readNot_148 : decode cX4_readNot 148 = .ok (.ireturn, 1) := by decide +kernel
theorem dX4_readNot_149 : decode cX4_readNot 149 = .ok (.iload_n 1, 1) := by decide +kernel
theorem dX4_readNot_150 : decode cX4_readNot 150 = .ok (.ifCond .eq 17, 3) := by decide +kernel
theorem dX4_readNot_153 : decode cX4_readNot 153 = .ok (.aload_n 0, 1) := by decide +kernel
theorem dX4_readNot_154 : decode cX4_readNot 154 = .ok (.getfield 31, 3) := by decide +kernel
theorem dX4_readNot_157 : decode cX4_readNot 157 = .ok (.getfield 348, 3) := by decide +kernel
theorem dX4_readNot_160 : decode cX4_readNot 160 = .ok (.iload_n 2, 1) := by decide +kernel
theorem dX4_readNot_161 : decode cX4_readNot 161 = .ok (.invokevirtual 366, 3) := by decide +kernel
theorem dX4_readNot_164 : decode cX4_readNot 164 = .ok (.goto 15, 3) := by decide +kernel
theorem dX4_readNot_167 : decode cX4_readNot 167 = .ok (.aload_n 0, 1) := by decide +kernel
theorem dX4_readNot_168 : decode cX4_readNot 168 = .ok (.getfield 31, 3) := by decide +kernel
theorem dX4_readNot_171 : decode cX4_readNot 171 = .ok (.getfield 348, 3) := by decide +kernel
theorem dX4_readNot_174 : decode cX4_readNot 174 = .ok (.getfield 369, 3) := by decide +kernel
theorem dX4_readNot_177 : decode cX4_readNot 177 = .ok (.iload_n 2, 1) := by decide +kernel
theorem dX4_readNot_178 : decode cX4_readNot 178 = .ok (.iaload, 1) := by decide +kernel
theorem dX4_readNot_179 : decode cX4_readNot 179 = .ok (.ireturn, 1) := by decide +kernel
theorem dX4_readComparison_0 : decode cX4_readComparison 0 = .ok (.aload_n 1, 1) := by decide +kernel
theorem dX4_readComparison_1 : decode cX4_readComparison 1 = .ok (.iconst 3, 1) := by decide +kernel
theorem dX4_readComparison_2 : decode cX4_readComparison 2 = .ok (.putfield 271, 3) := by decide +kernel
theorem dX4_readComparison_5 : decode cX4_readComparison 5 = .ok (.aload_n 1, 1) := by decide +kernel
theorem dX4_readComparison_6 : decode cX4_readComparison 6 = .ok (.aload_n 0, 1) := by decide +kernel
theorem dX4_readComparison_7 : decode cX4_readComparison 7 = .ok (.getfield 31, 3) := by decide +kernel
theorem dX4_readComparison_10 : decode cX4_readComparison 10 = .ok (.getfield 372, 3) := by decide +kernel
theorem dX4_readComparison_13 : decode cX4_readComparison 13 = .ok (.putfield 274, 3) := by decide +kernel
theorem dX4_readComparison_16 : decode cX4_readComparison 16 = .ok (.aload_n 0, 1) := by decide +kernel
theorem dX4_readComparison_17 : decode cX4_readComparison 17 = .ok (.getfield 31, 3) := by decide +kernel
theorem dX4_readComparison_20 : decode cX4_readComparison 20 = .ok (.dup, 1) := by decide +kernel
theorem dX4_readComparison_21 : decode cX4_readComparison 21 = .ok (.getfield 372, 3) := by decide +kernel
theorem dX4_readComparison_24 : decode cX4_readComparison 24 = .ok (.iconst 1, 1) := by decide +kernel
theorem dX4_readComparison_25 : decode cX4_readComparison 25 = .ok (.iadd, 1) := by decide +kernel
theorem dX4_readComparison_26 : decode cX4_readComparison 26 = .ok (.putfield 372, 3) := by decide +kernel
theorem dX4_readComparison_29 : decode cX4_readComparison 29 = .ok (.aload_n 1, 1) := by decide +kernel
theorem dX4_readComparison_30 : decode cX4_readComparison 30 = .ok (.aload_n 0, 1) := by decide +kernel
theorem dX4_readComparison_31 : decode cX4_readComparison 31 = .ok (.getfield 31, 3) := by decide +kernel
theorem dX4_readComparison_34 : decode cX4_readComparison 34 = .ok (.getfield 277, 3) := by decide +kernel
theorem dX4_readComparison_37 : decode cX4_readComparison 37 = .ok (.getfield 281, 3) := by decide +kernel
theorem dX4_readComparison_40 : decode cX4_readComparison 40 = .ok (.putfield 286, 3) := by decide +kernel
theorem dX4_readComparison_43 : decode cX4_readComparison 43 = .ok (.aload_n 0, 1) := by decide +kernel
theorem dX4_readComparison_44 : decode cX4_readComparison 44 = .ok (.invokevirtual 315, 3) := by decide +kernel
theorem dX4_readComparison_47 : decode cX4_readComparison 47 = .ok (.aload_n 0, 1) := by decide +kernel
theorem dX4_readComparison_48 : decode cX4_readComparison 48 = .ok (.getfield 31, 3) := by decide +kernel
theorem dX4_readComparison_51 : decode cX4_readComparison 51 = .ok (.getfield 277, 3) := by decide +kernel
theorem dX4_readComparison_54 : decode cX4_readComparison 54 = .ok (.iconst 0, 1) := by decide +kernel
theorem dX4_readComparison_55 : decode cX4_readComparison 55 = .ok (.invokevirtual 292, 3) := by decide +kernel
theorem dX4_readComparison_58 : decode cX4_readComparison 58 = .ok (.aload_n 1, 1) := by decide +kernel
theorem dX4_readComparison_59 : decode cX4_readComparison 59 = .ok (.aload_n 0, 1) := by decide +kernel
theorem dX4_readComparison_60 : decode cX4_readComparison 60 = .ok (.getfield 14, 3) := by decide +kernel
theorem dX4_readComparison_63 : decode cX4_readComparison 63 = .ok (.getfield 66, 3) := by decide +kernel
theorem dX4_readComparison_66 : decode cX4_readComparison 66 = .ok (.putfield 375, 3) := by decide +kernel
theorem dX4_readComparison_69 : decode cX4_readComparison 69 = .ok (.aload_n 0, 1) := by decide +kernel
theorem dX4_readComparison_70 : decode cX4_readComparison 70 = .ok (.getfield 14, 3) := by decide +kernel
theorem dX4_readComparison_73 : decode cX4_readComparison 73 = .ok (.getfield 66, 3) := by decide +kernel
theorem dX4_readComparison_76 : decode cX4_readComparison 76 = .ok (.bipush 7, 2) := by decide +kernel
theorem dX4_readComparison_78 : decode cX4_readComparison 78 = .ok (.if_icmp .lt 15, 3) := by decide +kernel
theorem dX4_readComparison_81 : decode cX4_readComparison 81 = .ok (.aload_n 0, 1) := by decide +kernel
theorem dX4_readComparison_82 : decode cX4_readComparison 82 = .ok (.getfield 14, 3) := by decide +kernel
theorem dX4_readComparison_85 : decode cX4_readComparison 85 = .ok (.getfield 66, 3) := by decide +kernel
theorem dX4_readComparison_88 : decode cX4_readComparison 88 = .ok (.bipush 12, 2) := by decide +kernel
theorem dX4_readComparison_90 : decode cX4_readComparison 90 = .ok (.if_icmp .le 11, 3) := by decide +kernel
theorem dX4_readComparison_93 : decode cX4_readComparison 93 = .ok (.aload_n 0, 1) := by decide +kernel
theorem dX4_readComparison_94 : decode cX4_readComparison 94 = .ok (.getfield 14, 3) := by decide +kernel
theorem dX4_readComparison_97 : decode cX4_readComparison 97 = .ok (.iconst 2, 1) := by decide +kernel
theorem dX4_readComparison_98 : decode cX4_readComparison 98 = .ok (.invokevirtual 69, 3) := by decide +kernel
theorem dX4_readComparison_101 : decode cX4_readComparison 101 = .ok (.aload_n 0, 1) := by decide +kernel
theorem dX4_readComparison_102 : decode cX4_readComparison 102 = .ok (.getfield 14, 3) := by decide +kernel
theorem dX4_readComparison_105 : decode cX4_readComparison 105 = .ok (.invokevirtual 117, 3) := by decide +kernel
theorem dX4_readComparison_108 : decode cX4_readComparison 108 = .ok (.aload_n 1, 1) := by decide +kernel
theorem dX4_readComparison_109 : decode cX4_readComparison 109 = .ok (.aload_n 0, 1) := by decide +kernel
theorem dX4_readComparison_110 : decode cX4_readComparison 110 = .ok (.getfield 31, 3) := by decide +kernel
theorem dX4_readComparison_113 : decode cX4_readComparison 113 = .ok (.getfield 277, 3) := by decide +kernel
theorem dX4_readComparison_116 : decode cX4_readComparison 116 = .ok (.getfield 281, 3) := by decide +kernel
theorem dX4_readComparison_119 : decode cX4_readComparison 119 = .ok (.putfield 378, 3) := by decide +kernel
theorem dX4_readComparison_122 : decode cX4_readComparison 122 = .ok (.aload_n 0, 1) := by decide +kernel
theorem dX4_readComparison_123 : decode cX4_readComparison 123 = .ok (.invokevirtual 315, 3) := by decide +kernel
theorem dX4_readComparison_126 : decode cX4_readComparison 126 = .ok (.aload_n 0, 1) := by decide +kernel
theorem dX4_readComparison_127 : decode cX4_readComparison 127 = .ok (.getfield 31, 3) := by decide +kernel
theorem dX4_readComparison_130 : decode cX4_readComparison 130 = .ok (.getfield 277, 3) := by decide +kernel
theorem dX4_readComparison_133 : decode cX4_readComparison 133 = .ok (.iconst 0, 1) := by decide +kernel
theorem dX4_readComparison_134 : decode cX4_readComparison 134 = .ok (.invokevirtual 292, 3) := by decide +kernel
theorem dX4_readComparison_137 : decode cX4_readComparison 137 = .ok (.aload_n 0, 1) := by decide +kernel
theorem dX4_readComparison_138 : decode cX4_readComparison 138 = .ok (.getfield 31, 3) := by decide +kernel
theorem dX4_readComparison_141 : decode cX4_readComparison 141 = .ok (.getfield 348, 3) := by decide +kernel
theorem dX4_readComparison_144 : decode cX4_readComparison 144 = .ok (.invokevirtual 381, 3) := by decide +kernel
theorem dX4_readComparison_147 : decode cX4_readComparison 147 = .ok (.ireturn, 1) := by decide +kernel
theorem dX4_readInBrackets_0 : decode cX4_readInBrackets 0 = .ok (.aload_n 0, 1) := by decide +kernel
theorem dX4_readInBrackets_1 : decode cX4_readInBrackets 1 = .ok (.getfield 14, 3) := by decide +kernel
theorem dX4_readInBrackets_4 : decode cX4_readInBrackets 4 = .ok (.invokevirtual 193, 3) := by decide +kernel
theorem dX4_readInBrackets_7 : decode cX4_readInBrackets 7 = .ok (.aload_n 0, 1) := by decide +kernel
theorem dX4_readInBrackets_8 : decode cX4_readInBrackets 8 = .ok (.getfield 14, 3) := by decide +kernel
theorem dX4_readInBrackets_11 : decode cX4_readInBrackets 11 = .ok (.invokevirtual 117, 3) := by decide +kernel
theorem dX4_readInBrackets_14 : decode cX4_readInBrackets 14 = .ok (.aload_n 0, 1) := by decide +kernel
theorem dX4_readInBrackets_15 : decode cX4_readInBrackets 15 = .ok (.getfield 14, 3) := by decide +kernel
theorem dX4_readInBrackets_18 : decode cX4_readInBrackets 18 = .ok (.getfield 79, 3) := by decide +kernel
theorem dX4_readInBrackets_21 : decode cX4_readInBrackets 21 = .ok (.ifCond .ne 7, 3) := by decide +kernel
theorem dX4_readInBrackets_24 : decode cX4_readInBrackets 24 = .ok (.aload_n 0, 1) := by decide +kernel
theorem dX4_readInBrackets_25 : decode cX4_readInBrackets 25 = .ok (.invokevirtual 315, 3) := by decide +kernel
theorem dX4_readInBrackets_28 : decode cX4_readInBrackets 28 = .ok (.aload_n 0, 1) := by decide +kernel
theorem dX4_readInBrackets_29 : decode cX4_readInBrackets 29 = .ok (.getfield 14, 3) := by decide +kernel
theorem dX4_readInBrackets_32 : decode cX4_readInBrackets 32 = .ok (.bipush 16, 2) := by decide +kernel
theorem dX4_readInBrackets_34 : decode cX4_readInBrackets 34 = .ok (.invokevirtual 114, 3) := by decide +kernel
theorem dX4_readInBrackets_37 : decode cX4_readInBrackets 37 = .ok (.aload_n 0, 1) := by decide +kernel
theorem dX4_readInBrackets_38 : decode cX4_readInBrackets 38 = .ok (.getfield 14, 3) := by decide +kernel
theorem dX4_readInBrackets_41 : decode cX4_readInBrackets 41 = .ok (.invokevirtual 207, 3) := by decide +kernel
theorem dX4_readInBrackets_44 : decode cX4_readInBrackets 44 = .ok (.return_, 1) := by decide +kernel
theorem dX4_readSum_0 : decode cX4_readSum 0 = .ok (.aload_n 0, 1) := by decide +kernel
theorem dX4_readSum_1 : decode cX4_readSum 1 = .ok (.invokevirtual 384, 3) := by decide +kernel
theorem dX4_readSum_4 : decode cX4_readSum 4 = .ok (.iconst 0, 1) := by decide +kernel
theorem dX4_readSum_5 : decode cX4_readSum 5 = .ok (.istore_n 1, 1) := by decide +kernel
theorem dX4_readSum_6 : decode cX4_readSum 6 = .ok (.iload_n 1, 1) := by decide +kernel
theorem dX4_readSum_7 : decode cX4_readSum 7 = .ok (.sipush 800, 3) := by decide +kernel
theorem dX4_readSum_10 : decode cX4_readSum 10 = .ok (.if_icmp .ge 63, 3) := by decide +kernel
theorem dX4_readSum_13 : decode cX4_readSum 13 = .ok (.aload_n 0, 1) := by decide +kernel
theorem dX4_readSum_14 : decode cX4_readSum 14 = .ok (.getfield 14, 3) := by decide +kernel
theorem dX4_readSum_17 : decode cX4_readSum 17 = .ok (.getfield 66, 3) := by decide +kernel
theorem dX4_readSum_20 : decode cX4_readSum 20 = .ok (.istore_n 2, 1) := by decide +kernel
theorem dX4_readSum_21 : decode cX4_readSum 21 = .ok (.iload_n 2, 1) := by decide +kernel
theorem dX4_readSum_22 : decode cX4_readSum 22 = .ok (.bipush 20, 2) := by decide +kernel
theorem dX4_readSum_24 : decode cX4_readSum 24 = .ok (.if_icmp .eq 10, 3) := by decide +kernel
theorem dX4_readSum_27 : decode cX4_readSum 27 = .ok (.iload_n 2, 1) := by decide +kernel
theorem dX4_readSum_28 : decode cX4_readSum 28 = .ok (.bipush 21, 2) := by decide +kernel
theorem dX4_readSum_30 : decode cX4_readSum 30 = .ok (.if_icmp .eq 4, 3) := by decide +kernel
theorem dX4_readSum_33 : decode cX4_readSum 33 = .ok (.return_, 1) := by decide +kernel
theorem dX4_readSum_34 : decode cX4_readSum 34 = .ok (.aload_n 0, 1) := by decide +kernel
theorem dX4_readSum_35 : decode cX4_readSum 35 = .ok (.getfield 14, 3) := by decide +kernel
theorem dX4_readSum_38 : decode cX4_readSum 38 = .ok (.invokevirtual 117, 3) := by decide +kernel
theorem dX4_readSum_41 : decode cX4_readSum 41 = .ok (.aload_n 0, 1) := by decide +kernel
theorem dX4_readSum_42 : decode cX4_readSum 42 = .ok (.invokevirtual 384, 3) := by decide +kernel
theorem dX4_readSum_45 : decode cX4_readSum 45 = .ok (.aload_n 0, 1) := by decide +kernel
theorem dX4_readSum_46 : decode cX4_readSum 46 = .ok (.getfield 31, 3) := by decide +kernel
theorem dX4_readSum_49 : decode cX4_readSum 49 = .ok (.getfield 277, 3) := by decide +kernel
theorem dX4_readSum_52 : decode cX4_readSum 52 = .ok (.iload_n 2, 1) := by decide +kernel
theorem dX4_readSum_53 : decode cX4_readSum 53 = .ok (.bipush 20, 2) := by decide +kernel
theorem dX4_readSum_55 : decode cX4_readSum 55 = .ok (.if_icmp .ne 7, 3) := by decide +kernel
theorem dX4_readSum_58 : decode cX4_readSum 58 = .ok (.iconst 5, 1) := by decide +kernel
theorem dX4_readSum_59 : decode cX4_readSum 59 = .ok (.goto 5, 3) := by decide +kernel
theorem dX4_readSum_62 : decode cX4_readSum 62 = .ok (.bipush 6, 2) := by decide +kernel
theorem dX4_readSum_64 : decode cX4_readSum 64 = .ok (.invokevirtual 292, 3) := by decide +kernel
theorem dX4_readSum_67 : decode cX4_readSum 67 = .ok (.iinc 1 1, 3) := by decide +kernel
theorem dX4_readSum_70 : decode cX4_readSum 70 = .ok (.goto (-64), 3) := by decide +kernel
theorem dX4_readSum_73 : decode cX4_readSum 73 = .ok (.return_, 1) := by decide +kernel
theorem dX4_readTimes_0 : decode cX4_readTimes 0 = .ok (.aload_n 0, 1) := by decide +kernel
theorem dX4_readTimes_1 : decode cX4_readTimes 1 = .ok (.invokevirtual 387, 3) := by decide +kernel
theorem dX4_readTimes_4 : decode cX4_readTimes 4 = .ok (.iconst 0, 1) := by decide +kernel
theorem dX4_readTimes_5 : decode cX4_readTimes 5 = .ok (.istore_n 1, 1) := by decide +kernel
theorem dX4_readTimes_6 : decode cX4_readTimes 6 = .ok (.iload_n 1, 1) := by decide +kernel
theorem dX4_readTimes_7 : decode cX4_readTimes 7 = .ok (.sipush 800, 3) := by decide +kernel
theorem dX4_readTimes_10 : decode cX4_readTimes 10 = .ok (.if_icmp .ge 64, 3) := by decide +kernel
theorem dX4_readTimes_13 : decode cX4_readTimes 13 = .ok (.aload_n 0, 1) := by decide +kernel
theorem dX4_readTimes_14 : decode cX4_readTimes 14 = .ok (.getfield 14, 3) := by decide +kernel
theorem dX4_readTimes_17 : decode cX4_readTimes 17 = .ok (.getfield 66, 3) := by decide +kernel
theorem dX4_readTimes_20 : decode cX4_readTimes 20 = .ok (.istore_n 2, 1) := by decide +kernel
theorem dX4_readTimes_21 : decode cX4_readTimes 21 = .ok (.iload_n 2, 1) := by decide +kernel
theorem dX4_readTimes_22 : decode cX4_readTimes 22 = .ok (.bipush 22, 2) := by decide +kernel
theorem dX4_readTimes_24 : decode cX4_readTimes 24 = .ok (.if_icmp .eq 16, 3) := by decide +kernel
theorem dX4_readTimes_27 : decode cX4_readTimes 27 = .ok (.iload_n 2, 1) := by decide +kernel
theorem dX4_readTimes_28 : decode cX4_readTimes 28 = .ok (.bipush 23, 2) := by decide +kernel
theorem dX4_readTimes_30 : decode cX4_readTimes 30 = .ok (.if_icmp .eq 10, 3) := by decide +kernel
theorem dX4_readTimes_33 : decode cX4_readTimes 33 = .ok (.iload_n 2, 1) := by decide +kernel
theorem dX4_readTimes_34 : decode cX4_readTimes 34 = .ok (.bipush 24, 2) := by decide +kernel
theorem dX4_readTimes_36 : decode cX4_readTimes 36 = .ok (.if_icmp .eq 4, 3) := by decide +kernel
theorem dX4_readTimes_39 : decode cX4_readTimes 39 = .ok (.return_, 1) := by decide +kernel
theorem dX4_readTimes_40 : decode cX4_readTimes 40 = .ok (.aload_n 0, 1) := by decide +kernel
theorem dX4_readTimes_41 : decode cX4_readTimes 41 = .ok (.getfield 14, 3) := by decide +kernel
theorem dX4_readTimes_44 : decode cX4_readTimes 44 = .ok (.invokevirtual 117, 3) := by decide +kernel
theorem dX4_readTimes_47 : decode cX4_readTimes 47 = .ok (.aload_n 0, 1) := by decide +kernel
theorem dX4_readTimes_48 : decode cX4_readTimes 48 = .ok (.invokevirtual 387, 3) := by decide +kernel
theorem dX4_readTimes_51 : decode cX4_readTimes 51 = .ok (.aload_n 0, 1) := by decide +kernel
theorem dX4_readTimes_52 : decode cX4_readTimes 52 = .ok (.getfield 31, 3) := by decide +kernel
theorem dX4_readTimes_55 : decode cX4_readTimes 55 = .ok (.getfield 277, 3) := by decide +kernel
theorem dX4_readTimes_58 : decode cX4_readTimes 58 = .ok (.bipush 7, 2) := by decide +kernel
theorem dX4_readTimes_60 : decode cX4_readTimes 60 = .ok (.iload_n 2, 1) := by decide +kernel
theorem dX4_readTimes_61 : decode cX4_readTimes 61 = .ok (.iadd, 1) := by decide +kernel
theorem dX4_readTimes_62 : decode cX4_readTimes 62 = .ok (.bipush 22, 2) := by decide +kernel
theorem dX4_readTimes_64 : decode cX4_readTimes 64 = .ok (.isub, 1) := by decide +kernel
theorem dX4_readTimes_65 : decode cX4_readTimes 65 = .ok (.invokevirtual 292, 3) := by decide +kernel
theorem dX4_readTimes_68 : decode cX4_readTimes 68 = .ok (.iinc 1 1, 3) := by decide +kernel
theorem dX4_readTimes_71 : decode cX4_readTimes 71 = .ok (.goto (-65), 3) := by decide +kernel
theorem dX4_readTimes_74 : decode cX4_readTimes 74 = .ok (.return_, 1) := by decide +kernel
theorem dX4_readOne_0 : decode cX4_readOne 0 = .ok (.aload_n 0, 1) := by decide +kernel
theorem dX4_readOne_1 : decode cX4_readOne 1 = .ok (.getfield 14, 3) := by decide +kernel
theorem dX4_readOne_4 : decode cX4_readOne 4 = .ok (.getfield 66, 3) := by decide +kernel
theorem dX4_readOne_7 : decode cX4_readOne 7 = .ok (.lookupswitch 195 #[(2, 78), (3, 49), (15, 188), (19, 105), (21, 139)], 49) := by decide +kernel
theorem dX4_readOne_56 : decode cX4_readOne 56 = .ok (.aload_n 0, 1) := by decide +kernel
theorem dX4_readOne_57 : decode cX4_readOne 57 = .ok (.getfield 31, 3) := by decide +kernel
theorem dX4_readOne_60 : decode cX4_readOne 60 = .ok (.getfield 277, 3) := by decide +kernel
theorem dX4_readOne_63 : decode cX4_readOne 63 = .ok (.iconst 1, 1) := by decide +kernel
theorem dX4_readOne_64 : decode cX4_readOne 64 = .ok (.aload_n 0, 1) := by decide +kernel
theorem dX4_readOne_65 : decode cX4_readOne 65 = .ok (.getfield 14, 3) := by decide +kernel
theorem dX4_readOne_68 : decode cX4_readOne 68 = .ok (.getfield 126, 3) := by decide +kernel
theorem dX4_readOne_71 : decode cX4_readOne 71 = .ok (.l2i, 1) := by decide +kernel
theorem dX4_readOne_72 : decode cX4_readOne 72 = .ok (.invokevirtual 390, 3) := by decide +kernel
theorem dX4_readOne_75 : decode cX4_readOne 75 = .ok (.aload_n 0, 1) := by decide +kernel
theorem dX4_readOne_76 : decode cX4_readOne 76 = .ok (.getfield 14, 3) := by decide +kernel
theorem dX4_readOne_79 : decode cX4_readOne 79 = .ok (.invokevirtual 117, 3) := by decide +kernel
theorem dX4_readOne_82 : decode cX4_readOne 82 = .ok (.goto 128, 3) := by decide +kernel
theorem dX4_readOne_85 : decode cX4_readOne 85 = .ok (.aload_n 0, 1) := by decide +kernel
theorem dX4_readOne_86 : decode cX4_readOne 86 = .ok (.invokevirtual 393, 3) := by decide +kernel
theorem dX4_readOne_89 : decode cX4_readOne 89 = .ok (.istore_n 1, 1) := by decide +kernel
theorem dX4_readOne_90 : decode cX4_readOne 90 = .ok (.aload_n 0, 1) := by decide +kernel
theorem dX4_readOne_91 : decode cX4_readOne 91 = .ok (.getfield 31, 3) := by decide +kernel
theorem dX4_readOne_94 : decode cX4_readOne 94 = .ok (.getfield 277, 3) := by decide +kernel
theorem dX4_readOne_97 : decode cX4_readOne 97 = .ok (.iconst 2, 1) := by decide +kernel
theorem dX4_readOne_98 : decode cX4_readOne 98 = .ok (.iload_n 1, 1) := by decide +kernel
theorem dX4_readOne_99 : decode cX4_readOne 99 = .ok (.invokevirtual 390, 3) := by decide +kernel
theorem dX4_readOne_102 : decode cX4_readOne 102 = .ok (.aload_n 0, 1) := by decide +kernel
theorem dX4_readOne_103 : decode cX4_readOne 103 = .ok (.getfield 14, 3) := by decide +kernel
theorem dX4_readOne_106 : decode cX4_readOne 106 = .ok (.invokevirtual 117, 3) := by decide +kernel
theorem dX4_readOne_109 : decode cX4_readOne 109 = .ok (.goto 101, 3) := by decide +kernel
theorem dX4_readOne_112 : decode cX4_readOne 112 = .ok (.aload_n 0, 1) := by decide +kernel
theorem dX4_readOne_113 : decode cX4_readOne 113 = .ok (.getfield 14, 3) := by decide +kernel
theorem dX4_readOne_116 : decode cX4_readOne 116 = .ok (.invokevirtual 117, 3) := by decide +kernel
theorem dX4_readOne_119 : decode cX4_readOne 119 = .ok (.aload_n 0, 1) := by decide +kernel
theorem dX4_readOne_120 : decode cX4_readOne 120 = .ok (.invokevirtual 396, 3) := by decide +kernel
theorem dX4_readOne_123 : decode cX4_readOne 123 = .ok (.istore_n 2, 1) := by decide +kernel
theorem dX4_readOne_124 : decode cX4_readOne 124 = .ok (.aload_n 0, 1) := by decide +kernel
theorem dX4_readOne_125 : decode cX4_readOne 125 = .ok (.getfield 31, 3) := by decide +kernel
theorem dX4_readOne_128 : decode cX4_readOne 128 = .ok (.getfield 277, 3) := by decide +kernel
theorem dX4_readOne_131 : decode cX4_readOne 131 = .ok (.iconst 3, 1) := by decide +kernel
theorem dX4_readOne_132 : decode cX4_readOne 132 = .ok (.iload_n 2, 1) := by decide +kernel
theorem dX4_readOne_133 : decode cX4_readOne 133 = .ok (.invokevirtual 390, 3) := by decide +kernel
theorem dX4_readOne_136 : decode cX4_readOne 136 = .ok (.aload_n 0, 1) := by decide +kernel
theorem dX4_readOne_137 : decode cX4_readOne 137 = .ok (.getfield 14, 3) := by decide +kernel
theorem dX4_readOne_140 : decode cX4_readOne 140 = .ok (.invokevirtual 117, 3) := by decide +kernel
theorem dX4_readOne_143 : decode cX4_readOne 143 = .ok (.goto 67, 3) := by decide +kernel
theorem dX4_readOne_146 : decode cX4_readOne 146 = .ok (.aload_n 0, 1) := by decide +kernel
theorem dX4_readOne_147 : decode cX4_readOne 147 = .ok (.getfield 14, 3) := by decide +kernel
theorem dX4_readOne_150 : decode cX4_readOne 150 = .ok (.invokevirtual 193, 3) := by decide +kernel
theorem dX4_readOne_153 : decode cX4_readOne 153 = .ok (.aload_n 0, 1) := by decide +kernel
theorem dX4_readOne_154 : decode cX4_readOne 154 = .ok (.getfield 14, 3) := by decide +kernel
theorem dX4_readOne_157 : decode cX4_readOne 157 = .ok (.invokevirtual 117, 3) := by decide +kernel
theorem dX4_readOne_160 : decode cX4_readOne 160 = .ok (.aload_n 0, 1) := by decide +kernel
theorem dX4_readOne_161 : decode cX4_readOne 161 = .ok (.getfield 14, 3) := by decide +kernel
theorem dX4_readOne_164 : decode cX4_readOne 164 = .ok (.getfield 79, 3) := by decide +kernel
theorem dX4_readOne_167 : decode cX4_readOne 167 = .ok (.ifCond .ne 7, 3) := by decide +kernel
theorem dX4_readOne_170 : decode cX4_readOne 170 = .ok (.aload_n 0, 1) := by decide +kernel
theorem dX4_readOne_171 : decode cX4_readOne 171 = .ok (.invokevirtual 387, 3) := by decide +kernel
theorem dX4_readOne_174 : decode cX4_readOne 174 = .ok (.aload_n 0, 1) := by decide +kernel
theorem dX4_readOne_175 : decode cX4_readOne 175 = .ok (.getfield 14, 3) := by decide +kernel
theorem dX4_readOne_178 : decode cX4_readOne 178 = .ok (.invokevirtual 207, 3) := by decide +kernel
theorem dX4_readOne_181 : decode cX4_readOne 181 = .ok (.aload_n 0, 1) := by decide +kernel
theorem dX4_readOne_182 : decode cX4_readOne 182 = .ok (.getfield 31, 3) := by decide +kernel
theorem dX4_readOne_185 : decode cX4_readOne 185 = .ok (.getfield 277, 3) := by decide +kernel
theorem dX4_readOne_188 : decode cX4_readOne 188 = .ok (.iconst 4, 1) := by decide +kernel
theorem dX4_readOne_189 : decode cX4_readOne 189 = .ok (.invokevirtual 292, 3) := by decide +kernel
theorem dX4_readOne_192 : decode cX4_readOne 192 = .ok (.goto 18, 3) := by decide +kernel
theorem dX4_readOne_195 : decode cX4_readOne 195 = .ok (.aload_n 0, 1) := by decide +kernel
theorem dX4_readOne_196 : decode cX4_readOne 196 = .ok (.invokevirtual 289, 3) := by decide +kernel
theorem dX4_readOne_199 : decode cX4_readOne 199 = .ok (.goto 11, 3) := by decide +kernel
theorem dX4_readOne_202 : decode cX4_readOne 202 = .ok (.aload_n 0, 1) := by decide +kernel
theorem dX4_readOne_203 : decode cX4_readOne 203 = .ok (.getfield 14, 3) := by decide +kernel
theorem dX4_readOne_206 : decode cX4_readOne 206 = .ok (.iconst 2, 1) := by decide +kernel
theorem dX4_readOne_207 : decode cX4_readOne 207 = .ok (.invokevirtual 69, 3) := by decide +kernel
theorem dX4_readOne_210 : decode cX4_readOne 210 = .ok (.return_, 1) := by decide +kernel
theorem dX4_usedVariable_0 : decode cX4_usedVariable 0 = .ok (.aload_n 0, 1) := by decide +kernel
theorem dX4_usedVariable_1 : decode cX4_usedVariable 1 = .ok (.getfield 31, 3) := by decide +kernel
theorem dX4_usedVariable_4 : decode cX4_usedVariable 4 = .ok (.aload_n 0, 1) := by decide +kernel
theorem dX4_usedVariable_5 : decode cX4_usedVariable 5 = .ok (.getfield 14, 3) := by decide +kernel
theorem dX4_usedVariable_8 : decode cX4_usedVariable 8 = .ok (.getfield 126, 3) := by decide +kernel
theorem dX4_usedVariable_11 : decode cX4_usedVariable 11 = .ok (.invokevirtual 210, 3) := by decide +kernel
theorem dX4_usedVariable_14 : decode cX4_usedVariable 14 = .ok (.istore_n 1, 1) := by decide +kernel
theorem dX4_usedVariable_15 : decode cX4_usedVariable 15 = .ok (.iload_n 1, 1) := by decide +kernel
theorem dX4_usedVariable_16 : decode cX4_usedVariable 16 = .ok (.iconst (-1), 1) := by decide +kernel
theorem dX4_usedVariable_17 : decode cX4_usedVariable 17 = .ok (.if_icmp .ne 13, 3) := by decide +kernel
theorem dX4_usedVariable_20 : decode cX4_usedVariable 20 = .ok (.aload_n 0, 1) := by decide +kernel
theorem dX4_usedVariable_21 : decode cX4_usedVariable 21 = .ok (.getfield 14, 3) := by decide +kernel
theorem dX4_usedVariable_24 : decode cX4_usedVariable 24 = .ok (.iconst 4, 1) := by decide +kernel
theorem dX4_usedVariable_25 : decode cX4_usedVariable 25 = .ok (.invokevirtual 69, 3) := by decide +kernel
theorem dX4_usedVariable_28 : decode cX4_usedVariable 28 = .ok (.iconst (-1), 1) := by decide +kernel
theorem dX4_usedVariable_29 : decode cX4_usedVariable 29 = .ok (.ireturn, 1) := by decide +kernel
theorem dX4_usedVariable_30 : decode cX4_usedVariable 30 = .ok (.aload_n 0, 1) := by decide +kernel
theorem dX4_usedVariable_31 : decode cX4_usedVariable 31 = .ok (.dup, 1) := by decide +kernel
theorem dX4_usedVariable_32 : decode cX4_usedVariable 32 = .ok (.getfield 45, 3) := by decide +kernel
theorem dX4_usedVariable_35 : decode cX4_usedVariable 35 = .ok (.iconst 1, 1) := by decide +kernel
theorem dX4_usedVariable_36 : decode cX4_usedVariable 36 = .ok (.iload_n 1, 1) := by decide +kernel
theorem dX4_usedVariable_37 : decode cX4_usedVariable 37 = .ok (.ishl, 1) := by decide +kernel
theorem dX4_usedVariable_38 : decode cX4_usedVariable 38 = .ok (.ior, 1) := by decide +kernel
theorem dX4_usedVariable_39 : decode cX4_usedVariable 39 = .ok (.putfield 45, 3) := by decide +kernel
theorem dX4_usedVariable_42 : decode cX4_usedVariable 42 = .ok (.iload_n 1, 1) := by decide +kernel
theorem dX4_usedVariable_43 : decode cX4_usedVariable 43 = .ok (.ireturn, 1) := by decide +kernel
theorem dX4_askedSignal_0 : decode cX4_askedSignal 0 = .ok (.aload_n 0, 1) := by decide +kernel
theorem dX4_askedSignal_1 : decode cX4_askedSignal 1 = .ok (.invokevirtual 300, 3) := by decide +kernel
theorem dX4_askedSignal_4 : decode cX4_askedSignal 4 = .ok (.istore_n 1, 1) := by decide +kernel
theorem dX4_askedSignal_5 : decode cX4_askedSignal 5 = .ok (.iload_n 1, 1) := by decide +kernel
theorem dX4_askedSignal_6 : decode cX4_askedSignal 6 = .ok (.iconst (-1), 1) := by decide +kernel
theorem dX4_askedSignal_7 : decode cX4_askedSignal 7 = .ok (.if_icmp .eq 23, 3) := by decide +kernel
theorem dX4_askedSignal_10 : decode cX4_askedSignal 10 = .ok (.aload_n 0, 1) := by decide +kernel
theorem dX4_askedSignal_11 : decode cX4_askedSignal 11 = .ok (.getfield 31, 3) := by decide +kernel
theorem dX4_askedSignal_14 : decode cX4_askedSignal 14 = .ok (.getfield 138, 3) := by decide +kernel
theorem dX4_askedSignal_17 : decode cX4_askedSignal 17 = .ok (.iload_n 1, 1) := by decide +kernel
theorem dX4_askedSignal_18 : decode cX4_askedSignal 18 = .ok (.iaload, 1) := by decide +kernel
theorem dX4_askedSignal_19 : decode cX4_askedSignal 19 = .ok (.ifCond .ne 11, 3) := by decide +kernel
theorem dX4_askedSignal_22 : decode cX4_askedSignal 22 = .ok (.aload_n 0, 1) := by decide +kernel
theorem dX4_askedSignal_23 : decode cX4_askedSignal 23 = .ok (.getfield 14, 3) := by decide +kernel
theorem dX4_askedSignal_26 : decode cX4_askedSignal 26 = .ok (.iconst 4, 1) := by decide +kernel
theorem dX4_askedSignal_27 : decode cX4_askedSignal 27 = .ok (.invokevirtual 69, 3) := by decide +kernel
theorem dX4_askedSignal_30 : decode cX4_askedSignal 30 = .ok (.iload_n 1, 1) := by decide +kernel
theorem dX4_askedSignal_31 : decode cX4_askedSignal 31 = .ok (.ireturn, 1) := by decide +kernel
