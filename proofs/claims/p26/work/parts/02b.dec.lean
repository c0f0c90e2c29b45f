theorem dX1_init_0 : decode cX1_init 0 = .ok (.aload_n 0, 1) := by decide +kernel
theorem dX1_init_1 : decode cX1_init 1 = .ok (.invokespecial 3, 3) := by decide +kernel
theorem dX1_init_4 : decode cX1_init 4 = .ok (.aload_n 0, 1) := by decide +kernel
theorem dX1_init_5 : decode cX1_init 5 = .ok (.bipush 16, 2) := by decide +kernel
theorem dX1_init_7 : decode cX1_init 7 = .ok (.newarray .long, 2) := by decide +kernel
theorem dX1_init_9 : decode cX1_init 9 = .ok (.putfield 11, 3) := by decide +kernel
theorem dX1_init_12 : decode cX1_init 12 = .ok (.aload_n 0, 1) := by decide +kernel
theorem dX1_init_13 : decode cX1_init 13 = .ok (.bipush 16, 2) := by decide +kernel
theorem dX1_init_15 : decode cX1_init 15 = .ok (.newarray .int, 2) := by decide +kernel
theorem dX1_init_17 : decode cX1_init 17 = .ok (.putfield 15, 3) := by decide +kernel
theorem dX1_init_20 : decode cX1_init 20 = .ok (.aload_n 0, 1) := by decide +kernel
theorem dX1_init_21 : decode cX1_init 21 = .ok (.bipush 16, 2) := by decide +kernel
theorem dX1_init_23 : decode cX1_init 23 = .ok (.newarray .int, 2) := by decide +kernel
theorem dX1_init_25 : decode cX1_init 25 = .ok (.putfield 19, 3) := by decide +kernel
theorem dX1_init_28 : decode cX1_init 28 = .ok (.aload_n 0, 1) := by decide +kernel
theorem dX1_init_29 : decode cX1_init 29 = .ok (.iconst 4, 1) := by decide +kernel
theorem dX1_init_30 : decode cX1_init 30 = .ok (.newarray .int, 2) := by decide +kernel
theorem dX1_init_32 : decode cX1_init 32 = .ok (.putfield 22, 3) := by decide +kernel
theorem dX1_init_35 : decode cX1_init 35 = .ok (.aload_n 0, 1) := by decide +kernel
theorem dX1_init_36 : decode cX1_init 36 = .ok (.bipush 6, 2) := by decide +kernel
theorem dX1_init_38 : decode cX1_init 38 = .ok (.newarray .long, 2) := by decide +kernel
theorem dX1_init_40 : decode cX1_init 40 = .ok (.putfield 25, 3) := by decide +kernel
theorem dX1_init_43 : decode cX1_init 43 = .ok (.aload_n 0, 1) := by decide +kernel
theorem dX1_init_44 : decode cX1_init 44 = .ok (.bipush 6, 2) := by decide +kernel
theorem dX1_init_46 : decode cX1_init 46 = .ok (.newarray .int, 2) := by decide +kernel
theorem dX1_init_48 : decode cX1_init 48 = .ok (.putfield 28, 3) := by decide +kernel
theorem dX1_init_51 : decode cX1_init 51 = .ok (.aload_n 0, 1) := by decide +kernel
theorem dX1_init_52 : decode cX1_init 52 = .ok (.new 31, 3) := by decide +kernel
theorem dX1_init_55 : decode cX1_init 55 = .ok (.dup, 1) := by decide +kernel
theorem dX1_init_56 : decode cX1_init 56 = .ok (.invokespecial 33, 3) := by decide +kernel
theorem dX1_init_59 : decode cX1_init 59 = .ok (.putfield 34, 3) := by decide +kernel
theorem dX1_init_62 : decode cX1_init 62 = .ok (.aload_n 0, 1) := by decide +kernel
theorem dX1_init_63 : decode cX1_init 63 = .ok (.new 38, 3) := by decide +kernel
theorem dX1_init_66 : decode cX1_init 66 = .ok (.dup, 1) := by decide +kernel
theorem dX1_init_67 : decode cX1_init 67 = .ok (.invokespecial 40, 3) := by decide +kernel
theorem dX1_init_70 : decode cX1_init 70 = .ok (.putfield 41, 3) := by decide +kernel
theorem dX1_init_73 : decode cX1_init 73 = .ok (.aload_n 0, 1) := by decide +kernel
theorem dX1_init_74 : decode cX1_init 74 = .ok (.new 45, 3) := by decide +kernel
theorem dX1_init_77 : decode cX1_init 77 = .ok (.dup, 1) := by decide +kernel
theorem dX1_init_78 : decode cX1_init 78 = .ok (.invokespecial 47, 3) := by decide +kernel
theorem dX1_init_81 : decode cX1_init 81 = .ok (.putfield 48, 3) := by decide +kernel
theorem dX1_init_84 : decode cX1_init 84 = .ok (.return_, 1) := by decide +kernel
theorem dX1_signalNamed_0 : decode cX1_signalNamed 0 = .ok (.iconst 0, 1) := by decide +kernel
theorem dX1_signalNamed_1 : decode cX1_signalNamed 1 = .ok (.istore_n 3, 1) := by decide +kernel
theorem dX1_signalNamed_2 : decode cX1_signalNamed 2 = .ok (.iload_n 3, 1) := by decide +kernel
theorem dX1_signalNamed_3 : decode cX1_signalNamed 3 = .ok (.aload_n 0, 1) := by decide +kernel
theorem dX1_signalNamed_4 : decode cX1_signalNamed 4 = .ok (.getfield 52, 3) := by decide +kernel
theorem dX1_signalNamed_7 : decode cX1_signalNamed 7 = .ok (.if_icmp .ge 22, 3) := by decide +kernel
theorem dX1_signalNamed_10 : decode cX1_signalNamed 10 = .ok (.aload_n 0, 1) := by decide +kernel
theorem dX1_signalNamed_11 : decode cX1_signalNamed 11 = .ok (.getfield 11, 3) := by decide +kernel
theorem dX1_signalNamed_14 : decode cX1_signalNamed 14 = .ok (.iload_n 3, 1) := by decide +kernel
theorem dX1_signalNamed_15 : decode cX1_signalNamed 15 = .ok (.laload, 1) := by decide +kernel
theorem dX1_signalNamed_16 : decode cX1_signalNamed 16 = .ok (.lload_n 1, 1) := by decide +kernel
theorem dX1_signalNamed_17 : decode cX1_signalNamed 17 = .ok (.lcmp, 1) := by decide +kernel
theorem dX1_signalNamed_18 : decode cX1_signalNamed 18 = .ok (.ifCond .ne 5, 3) := by decide +kernel
theorem dX1_signalNamed_21 : decode cX1_signalNamed 21 = .ok (.iload_n 3, 1) := by decide +kernel
theorem dX1_signalNamed_22 : decode cX1_signalNamed 22 = .ok (.ireturn, 1) := by decide +kernel
theorem dX1_signalNamed_23 : decode cX1_signalNamed 23 = .ok (.iinc 3 1, 3) := by decide +kernel
theorem dX1_signalNamed_26 : decode cX1_signalNamed 26 = .ok (.goto (-24), 3) := by decide +kernel
theorem dX1_signalNamed_29 : decode cX1_signalNamed 29 = .ok (.iconst (-1), 1) := by decide +kernel
theorem dX1_signalNamed_30 : decode cX1_signalNamed 30 = .ok (.ireturn, 1) := by decide +kernel
theorem dX1_variableNamed_0 : decode cX1_variableNamed 0 = .ok (.iconst 0, 1) := by decide +kernel
theorem dX1_variableNamed_1 : decode cX1_variableNamed 1 = .ok (.istore_n 3, 1) := by decide +kernel
theorem dX1_variableNamed_2 : decode cX1_variableNamed 2 = .ok (.iload_n 3, 1) := by decide +kernel
theorem dX1_variableNamed_3 : decode cX1_variableNamed 3 = .ok (.aload_n 0, 1) := by decide +kernel
theorem dX1_variableNamed_4 : decode cX1_variableNamed 4 = .ok (.getfield 56, 3) := by decide +kernel
theorem dX1_variableNamed_7 : decode cX1_variableNamed 7 = .ok (.if_icmp .ge 22, 3) := by decide +kernel
theorem dX1_variableNamed_10 : decode cX1_variableNamed 10 = .ok (.aload_n 0, 1) := by decide +kernel
theorem dX1_variableNamed_11 : decode cX1_variableNamed 11 = .ok (.getfield 25, 3) := by decide +kernel
theorem dX1_variableNamed_14 : decode cX1_variableNamed 14 = .ok (.iload_n 3, 1) := by decide +kernel
theorem dX1_variableNamed_15 : decode cX1_variableNamed 15 = .ok (.laload, 1) := by decide +kernel
theorem dX1_variableNamed_16 : decode cX1_variableNamed 16 = .ok (.lload_n 1, 1) := by decide +kernel
theorem dX1_variableNamed_17 : decode cX1_variableNamed 17 = .ok (.lcmp, 1) := by decide +kernel
theorem dX1_variableNamed_18 : decode cX1_variableNamed 18 = .ok (.ifCond .ne 5, 3) := by decide +kernel
theorem dX1_variableNamed_21 : decode cX1_variableNamed 21 = .ok (.iload_n 3, 1) := by decide +kernel
theorem dX1_variableNamed_22 : decode cX1_variableNamed 22 = .ok (.ireturn, 1) := by decide +kernel
theorem dX1_variableNamed_23 : decode cX1_variableNamed 23 = .ok (.iinc 3 1, 3) := by decide +kernel
theorem dX1_variableNamed_26 : decode cX1_variableNamed 26 = .ok (.goto (-24), 3) := by decide +kernel
theorem dX1_variableNamed_29 : decode cX1_variableNamed 29 = .ok (.iconst (-1), 1) := by decide +kernel
theorem dX1_variableNamed_30 : decode cX1_variableNamed 30 = .ok (.ireturn, 1) := by decide +kernel
theorem dX1_isTold_0 : decode cX1_isTold 0 = .ok (.aload_n 0, 1) := by decide +kernel
theorem dX1_isTold_1 : decode cX1_isTold 1 = .ok (.lload_n 1, 1) := by decide +kernel
theorem dX1_isTold_2 : decode cX1_isTold 2 = .ok (.invokevirtual 59, 3) := by decide +kernel
theorem dX1_isTold_5 : decode cX1_isTold 5 = .ok (.iconst (-1), 1) := by decide +kernel
theorem dX1_isTold_6 : decode cX1_isTold 6 = .ok (.if_icmp .ne 12, 3) := by decide +kernel
theorem dX1_isTold_9 : decode cX1_isTold 9 = .ok (.aload_n 0, 1) := by decide +kernel
theorem dX1_isTold_10 : decode cX1_isTold 10 = .ok (.lload_n 1, 1) := by decide +kernel
theorem dX1_isTold_11 : decode cX1_isTold 11 = .ok (.invokevirtual 63, 3) := by decide +kernel
theorem dX1_isTold_14 : decode cX1_isTold 14 = .ok (.iconst (-1), 1) := by decide +kernel
theorem dX1_isTold_15 : decode cX1_isTold 15 = .ok (.if_icmp .eq 7, 3) := by decide +kernel
theorem dX1_isTold_18 : decode cX1_isTold 18 = .ok (.iconst 1, 1) := by decide +kernel
theorem dX1_isTold_19 : decode cX1_isTold 19 = .ok (.goto 4, 3) := by decide +kernel
theorem dX1_isTold_22 : decode cX1_isTold 22 = .ok (.iconst 0, 1) := by decide +kernel
theorem dX1_isTold_23 : decode cX1_isTold 23 = .ok (.ireturn, 1) := by decide +kernel
theorem dX1_isFullFor_0 : decode cX1_isFullFor 0 = .ok (.iload_n 1, 1) := by decide +kernel
theorem dX1_isFullFor_1 : decode cX1_isFullFor 1 = .ok (.bipush 36, 2) := by decide +kernel
theorem dX1_isFullFor_3 : decode cX1_isFullFor 3 = .ok (.if_icmp .ne 18, 3) := by decide +kernel
theorem dX1_isFullFor_6 : decode cX1_isFullFor 6 = .ok (.aload_n 0, 1) := by decide +kernel
theorem dX1_isFullFor_7 : decode cX1_isFullFor 7 = .ok (.getfield 56, 3) := by decide +kernel
theorem dX1_isFullFor_10 : decode cX1_isFullFor 10 = .ok (.bipush 6, 2) := by decide +kernel
theorem dX1_isFullFor_12 : decode cX1_isFullFor 12 = .ok (.if_icmp .lt 7, 3) := by decide +kernel
theorem dX1_isFullFor_15 : decode cX1_isFullFor 15 = .ok (.iconst 1, 1) := by decide +kernel
theorem dX1_isFullFor_16 : decode cX1_isFullFor 16 = .ok (.goto 4, 3) := by decide +kernel
theorem dX1_isFullFor_19 : decode cX1_isFullFor 19 = .ok (.iconst 0, 1) := by decide +kernel
theorem dX1_isFullFor_20 : decode cX1_isFullFor 20 = .ok (.ireturn, 1) := by decide +kernel
theorem dX1_isFullFor_21 : decode cX1_isFullFor 21 = .ok (.aload_n 0, 1) := by decide +kernel
theorem dX1_isFullFor_22 : decode cX1_isFullFor 22 = .ok (.getfield 52, 3) := by decide +kernel
theorem dX1_isFullFor_25 : decode cX1_isFullFor 25 = .ok (.bipush 16, 2) := by decide +kernel
theorem dX1_isFullFor_27 : decode cX1_isFullFor 27 = .ok (.if_icmp .ge 17, 3) := by decide +kernel
theorem dX1_isFullFor_30 : decode cX1_isFullFor 30 = .ok (.iload_n 1, 1) := by decide +kernel
theorem dX1_isFullFor_31 : decode cX1_isFullFor 31 = .ok (.bipush 30, 2) := by decide +kernel
theorem dX1_isFullFor_33 : decode cX1_isFullFor 33 = .ok (.if_icmp .ne 15, 3) := by decide +kernel
theorem dX1_isFullFor_36 : decode cX1_isFullFor 36 = .ok (.aload_n 0, 1) := by decide +kernel
theorem dX1_isFullFor_37 : decode cX1_isFullFor 37 = .ok (.getfield 68, 3) := by decide +kernel
theorem dX1_isFullFor_40 : decode cX1_isFullFor 40 = .ok (.iconst 4, 1) := by decide +kernel
theorem dX1_isFullFor_41 : decode cX1_isFullFor 41 = .ok (.if_icmp .lt 7, 3) := by decide +kernel
theorem dX1_isFullFor_44 : decode cX1_isFullFor 44 = .ok (.iconst 1, 1) := by decide +kernel
theorem dX1_isFullFor_45 : decode cX1_isFullFor 45 = .ok (.goto 4, 3) := by decide +kernel
theorem dX1_isFullFor_48 : decode cX1_isFullFor 48 = .ok (.iconst 0, 1) := by decide +kernel
theorem dX1_isFullFor_49 : decode cX1_isFullFor 49 = .ok (.ireturn, 1) := by decide +kernel
theorem dX1_addSignal_0 : decode cX1_addSignal 0 = .ok (.aload_n 0, 1) := by decide +kernel
theorem dX1_addSignal_1 : decode cX1_addSignal 1 = .ok (.iload_n 3, 1) := by decide +kernel
theorem dX1_addSignal_2 : decode cX1_addSignal 2 = .ok (.invokevirtual 71, 3) := by decide +kernel
theorem dX1_addSignal_5 : decode cX1_addSignal 5 = .ok (.ifCond .eq 4, 3) := by decide +kernel
theorem dX1_addSignal_8 : decode cX1_addSignal 8 = .ok (.return_, 1) := by decide +kernel
theorem dX1_addSignal_9 : decode cX1_addSignal 9 = .ok (.aload_n 0, 1) := by decide +kernel
theorem dX1_addSignal_10 : decode cX1_addSignal 10 = .ok (.getfield 11, 3) := by decide +kernel
theorem dX1_addSignal_13 : decode cX1_addSignal 13 = .ok (.aload_n 0, 1) := by decide +kernel
theorem dX1_addSignal_14 : decode cX1_addSignal 14 = .ok (.getfield 52, 3) := by decide +kernel
theorem dX1_addSignal_17 : decode cX1_addSignal 17 = .ok (.lload_n 1, 1) := by decide +kernel
theorem dX1_addSignal_18 : decode cX1_addSignal 18 = .ok (.lastore, 1) := by decide +kernel
theorem dX1_addSignal_19 : decode cX1_addSignal 19 = .ok (.aload_n 0, 1) := by decide +kernel
theorem dX1_addSignal_20 : decode cX1_addSignal 20 = .ok (.getfield 15, 3) := by decide +kernel
theorem dX1_addSignal_23 : decode cX1_addSignal 23 = .ok (.aload_n 0, 1) := by decide +kernel
theorem dX1_addSignal_24 : decode cX1_addSignal 24 = .ok (.getfield 52, 3) := by decide +kernel
theorem dX1_addSignal_27 : decode cX1_addSignal 27 = .ok (.iload_n 3, 1) := by decide +kernel
theorem dX1_addSignal_28 : decode cX1_addSignal 28 = .ok (.iastore, 1) := by decide +kernel
theorem dX1_addSignal_29 : decode cX1_addSignal 29 = .ok (.aload_n 0, 1) := by decide +kernel
theorem dX1_addSignal_30 : decode cX1_addSignal 30 = .ok (.getfield 41, 3) := by decide +kernel
theorem dX1_addSignal_33 : decode cX1_addSignal 33 = .ok (.aload_n 0, 1) := by decide +kernel
theorem dX1_addSignal_34 : decode cX1_addSignal 34 = .ok (.getfield 52, 3) := by decide +kernel
theorem dX1_addSignal_37 : decode cX1_addSignal 37 = .ok (.invokevirtual 75, 3) := by decide +kernel
theorem dX1_addSignal_40 : decode cX1_addSignal 40 = .ok (.iload_n 3, 1) := by decide +kernel
theorem dX1_addSignal_41 : decode cX1_addSignal 41 = .ok (.bipush 30, 2) := by decide +kernel
theorem dX1_addSignal_43 : decode cX1_addSignal 43 = .ok (.if_icmp .ne 26, 3) := by decide +kernel
theorem dX1_addSignal_46 : decode cX1_addSignal 46 = .ok (.aload_n 0, 1) := by decide +kernel
theorem dX1_addSignal_47 : decode cX1_addSignal 47 = .ok (.getfield 22, 3) := by decide +kernel
theorem dX1_addSignal_50 : decode cX1_addSignal 50 = .ok (.aload_n 0, 1) := by decide +kernel
theorem dX1_addSignal_51 : decode cX1_addSignal 51 = .ok (.getfield 68, 3) := by decide +kernel
theorem dX1_addSignal_54 : decode cX1_addSignal 54 = .ok (.aload_n 0, 1) := by decide +kernel
theorem dX1_addSignal_55 : decode cX1_addSignal 55 = .ok (.getfield 52, 3) := by decide +kernel
theorem dX1_addSignal_58 : decode cX1_addSignal 58 = .ok (.iastore, 1) := by decide +kernel
theorem dX1_addSignal_59 : decode cX1_addSignal 59 = .ok (.aload_n 0, 1) := by decide +kernel
theorem dX1_addSignal_60 : decode cX1_addSignal 60 = .ok (.dup, 1) := by decide +kernel
theorem dX1_addSignal_61 : decode cX1_addSignal 61 = .ok (.getfield 68, 3) := by decide +kernel
theorem dX1_addSignal_64 : decode cX1_addSignal 64 = .ok (.iconst 1, 1) := by decide +kernel
theorem dX1_addSignal_65 : decode cX1_addSignal 65 = .ok (.iadd, 1) := by decide +kernel
theorem dX1_addSignal_66 : decode cX1_addSignal 66 = .ok (.putfield 68, 3) := by decide +kernel
theorem dX1_addSignal_69 : decode cX1_addSignal 69 = .ok (.iload_n 3, 1) := by decide +kernel
theorem dX1_addSignal_70 : decode cX1_addSignal 70 = .ok (.bipush 31, 2) := by decide +kernel
theorem dX1_addSignal_72 : decode cX1_addSignal 72 = .ok (.if_icmp .ne 18, 3) := by decide +kernel
theorem dX1_addSignal_75 : decode cX1_addSignal 75 = .ok (.aload_n 0, 1) := by decide +kernel
theorem dX1_addSignal_76 : decode cX1_addSignal 76 = .ok (.dup, 1) := by decide +kernel
theorem dX1_addSignal_77 : decode cX1_addSignal 77 = .ok (.getfield 79, 3) := by decide +kernel
theorem dX1_addSignal_80 : decode cX1_addSignal 80 = .ok (.iconst 1, 1) := by decide +kernel
theorem dX1_addSignal_81 : decode cX1_addSignal 81 = .ok (.aload_n 0, 1) := by decide +kernel
theorem dX1_addSignal_82 : decode cX1_addSignal 82 = .ok (.getfield 52, 3) := by decide +kernel
theorem dX1_addSignal_85 : decode cX1_addSignal 85 = .ok (.ishl, 1) := by decide +kernel
theorem dX1_addSignal_86 : decode cX1_addSignal 86 = .ok (.ior, 1) := by decide +kernel
theorem dX1_addSignal_87 : decode cX1_addSignal 87 = .ok (.putfield 79, 3) := by decide +kernel
theorem dX1_addSignal_90 : decode cX1_addSignal 90 = .ok (.aload_n 0, 1) := by decide +kernel
theorem dX1_addSignal_91 : decode cX1_addSignal 91 = .ok (.dup, 1) := by decide +kernel
theorem dX1_addSignal_92 : decode cX1_addSignal 92 = .ok (.getfield 52, 3) := by decide +kernel
theorem dX1_addSignal_95 : decode cX1_addSignal 95 = .ok (.iconst 1, 1) := by decide +kernel
theorem dX1_addSignal_96 : decode cX1_addSignal 96 = .ok (.iadd, 1) := by decide +kernel
theorem dX1_addSignal_97 : decode cX1_addSignal 97 = .ok (.putfield 52, 3) := by decide +kernel
theorem dX1_addSignal_100 : decode cX1_addSignal 100 = .ok (.return_, 1) := by decide +kernel
theorem dX1_addVariable_0 : decode cX1_addVariable 0 = .ok (.aload_n 0, 1) := by decide +kernel
theorem dX1_addVariable_1 : decode cX1_addVariable 1 = .ok (.bipush 36, 2) := by decide +kernel
theorem dX1_addVariable_3 : decode cX1_addVariable 3 = .ok (.invokevirtual 71, 3) := by decide +kernel
theorem dX1_addVariable_6 : decode cX1_addVariable 6 = .ok (.ifCond .eq 4, 3) := by decide +kernel
theorem dX1_addVariable_9 : decode cX1_addVariable 9 = .ok (.return_, 1) := by decide +kernel
theorem dX1_addVariable_10 : decode cX1_addVariable 10 = .ok (.aload_n 0, 1) := by decide +kernel
theorem dX1_addVariable_11 : decode cX1_addVariable 11 = .ok (.getfield 25, 3) := by decide +kernel
theorem dX1_addVariable_14 : decode cX1_addVariable 14 = .ok (.aload_n 0, 1) := by decide +kernel
theorem dX1_addVariable_15 : decode cX1_addVariable 15 = .ok (.getfield 56, 3) := by decide +kernel
theorem dX1_addVariable_18 : decode cX1_addVariable 18 = .ok (.lload_n 1, 1) := by decide +kernel
theorem dX1_addVariable_19 : decode cX1_addVariable 19 = .ok (.lastore, 1) := by decide +kernel
theorem dX1_addVariable_20 : decode cX1_addVariable 20 = .ok (.aload_n 0, 1) := by decide +kernel
theorem dX1_addVariable_21 : decode cX1_addVariable 21 = .ok (.dup, 1) := by decide +kernel
theorem dX1_addVariable_22 : decode cX1_addVariable 22 = .ok (.getfield 56, 3) := by decide +kernel
theorem dX1_addVariable_25 : decode cX1_addVariable 25 = .ok (.iconst 1, 1) := by decide +kernel
theorem dX1_addVariable_26 : decode cX1_addVariable 26 = .ok (.iadd, 1) := by decide +kernel
theorem dX1_addVariable_27 : decode cX1_addVariable 27 = .ok (.putfield 56, 3) := by decide +kernel
theorem dX1_addVariable_30 : decode cX1_addVariable 30 = .ok (.return_, 1) := by decide +kernel
theorem dX1_hasSignal_0 : decode cX1_hasSignal 0 = .ok (.iload_n 1, 1) := by decide +kernel
theorem dX1_hasSignal_1 : decode cX1_hasSignal 1 = .ok (.ifCond .lt 15, 3) := by decide +kernel
theorem dX1_hasSignal_4 : decode cX1_hasSignal 4 = .ok (.iload_n 1, 1) := by decide +kernel
theorem dX1_hasSignal_5 : decode cX1_hasSignal 5 = .ok (.aload_n 0, 1) := by decide +kernel
theorem dX1_hasSignal_6 : decode cX1_hasSignal 6 = .ok (.getfield 52, 3) := by decide +kernel
theorem dX1_hasSignal_9 : decode cX1_hasSignal 9 = .ok (.if_icmp .ge 7, 3) := by decide +kernel
theorem dX1_hasSignal_12 : decode cX1_hasSignal 12 = .ok (.iconst 1, 1) := by decide +kernel
theorem dX1_hasSignal_13 : decode cX1_hasSignal 13 = .ok (.goto 4, 3) := by decide +kernel
theorem dX1_hasSignal_16 : decode cX1_hasSignal 16 = .ok (.iconst 0, 1) := by decide +kernel
theorem dX1_hasSignal_17 : decode cX1_hasSignal 17 = .ok (.ireturn, 1) := by decide +kernel
theorem dX1_hasPart_0 : decode cX1_hasPart 0 = .ok (.iload_n 1, 1) := by decide +kernel
theorem dX1_hasPart_1 : decode cX1_hasPart 1 = .ok (.ifCond .lt 18, 3) := by decide +kernel
theorem dX1_hasPart_4 : decode cX1_hasPart 4 = .ok (.iload_n 1, 1) := by decide +kernel
theorem dX1_hasPart_5 : decode cX1_hasPart 5 = .ok (.aload_n 0, 1) := by decide +kernel
theorem dX1_hasPart_6 : decode cX1_hasPart 6 = .ok (.getfield 34, 3) := by decide +kernel
theorem dX1_hasPart_9 : decode cX1_hasPart 9 = .ok (.invokevirtual 82, 3) := by decide +kernel
theorem dX1_hasPart_12 : decode cX1_hasPart 12 = .ok (.if_icmp .ge 7, 3) := by decide +kernel
theorem dX1_hasPart_15 : decode cX1_hasPart 15 = .ok (.iconst 1, 1) := by decide +kernel
theorem dX1_hasPart_16 : decode cX1_hasPart 16 = .ok (.goto 4, 3) := by decide +kernel
theorem dX1_hasPart_19 : decode cX1_hasPart 19 = .ok (.iconst 0, 1) := by decide +kernel
theorem dX1_hasPart_20 : decode cX1_hasPart 20 = .ok (.ireturn, 1) := by decide +kernel
theorem dX2_init_0 : decode cX2_init 0 = .ok (.aload_n 0, 1) := by decide +kernel
theorem dX2_init_1 : decode cX2_init 1 = .ok (.invokespecial 7, 3) := by decide +kernel
theorem dX2_init_4 : decode cX2_init 4 = .ok (.aload_n 0, 1) := by decide +kernel
theorem dX2_init_5 : decode cX2_init 5 = .ok (.bipush 26, 2) := by decide +kernel
theorem dX2_init_7 : decode cX2_init 7 = .ok (.newarray .int, 2) := by decide +kernel
theorem dX2_init_9 : decode cX2_init 9 = .ok (.putfield 13, 3) := by decide +kernel
theorem dX2_init_12 : decode cX2_init 12 = .ok (.aload_n 0, 1) := by decide +kernel
theorem dX2_init_13 : decode cX2_init 13 = .ok (.bipush 26, 2) := by decide +kernel
theorem dX2_init_15 : decode cX2_init 15 = .ok (.newarray .int, 2) := by decide +kernel
theorem dX2_init_17 : decode cX2_init 17 = .ok (.putfield 17, 3) := by decide +kernel
theorem dX2_init_20 : decode cX2_init 20 = .ok (.aload_n 0, 1) := by decide +kernel
theorem dX2_init_21 : decode cX2_init 21 = .ok (.iconst 3, 1) := by decide +kernel
theorem dX2_init_22 : decode cX2_init 22 = .ok (.bipush 26, 2) := by decide +kernel
theorem dX2_init_24 : decode cX2_init 24 = .ok (.multianewarray 20 2, 4) := by decide +kernel
theorem dX2_init_28 : decode cX2_init 28 = .ok (.putfield 22, 3) := by decide +kernel
theorem dX2_init_31 : decode cX2_init 31 = .ok (.aload_n 0, 1) := by decide +kernel
theorem dX2_init_32 : decode cX2_init 32 = .ok (.iconst 4, 1) := by decide +kernel
theorem dX2_init_33 : decode cX2_init 33 = .ok (.newarray .int, 2) := by decide +kernel
theorem dX2_init_35 : decode cX2_init 35 = .ok (.putfield 25, 3) := by decide +kernel
theorem dX2_init_38 : decode cX2_init 38 = .ok (.aload_n 0, 1) := by decide +kernel
theorem dX2_init_39 : decode cX2_init 39 = .ok (.iconst (-1), 1) := by decide +kernel
theorem dX2_init_40 : decode cX2_init 40 = .ok (.putfield 28, 3) := by decide +kernel
theorem dX2_init_43 : decode cX2_init 43 = .ok (.aload_n 0, 1) := by decide +kernel
theorem dX2_init_44 : decode cX2_init 44 = .ok (.iconst (-1), 1) := by decide +kernel
theorem dX2_init_45 : decode cX2_init 45 = .ok (.putfield 32, 3) := by decide +kernel
theorem dX2_init_48 : decode cX2_init 48 = .ok (.aload_n 0, 1) := by decide +kernel
theorem dX2_init_49 : decode cX2_init 49 = .ok (.aload_n 1, 1) := by decide +kernel
theorem dX2_init_50 : decode cX2_init 50 = .ok (.putfield 35, 3) := by decide +kernel
theorem dX2_init_53 : decode cX2_init 53 = .ok (.aload_n 0, 1) := by decide +kernel
theorem dX2_init_54 : decode cX2_init 54 = .ok (.iload_n 2, 1) := by decide +kernel
theorem dX2_init_55 : decode cX2_init 55 = .ok (.putfield 39, 3) := by decide +kernel
theorem dX2_init_58 : decode cX2_init 58 = .ok (.aload_n 0, 1) := by decide +kernel
theorem dX2_init_59 : decode cX2_init 59 = .ok (.aload_n 1, 1) := by decide +kernel
theorem dX2_init_60 : decode cX2_init 60 = .ok (.getfield 42, 3) := by decide +kernel
theorem dX2_init_63 : decode cX2_init 63 = .ok (.invokevirtual 46, 3) := by decide +kernel
theorem dX2_init_66 : decode cX2_init 66 = .ok (.newarray .int, 2) := by decide +kernel
theorem dX2_init_68 : decode cX2_init 68 = .ok (.putfield 52, 3) := by decide +kernel
theorem dX2_init_71 : decode cX2_init 71 = .ok (.iconst 0, 1) := by decide +kernel
theorem dX2_init_72 : decode cX2_init 72 = .ok (.istore_n 3, 1) := by decide +kernel
theorem dX2_init_73 : decode cX2_init 73 = .ok (.iload_n 3, 1) := by decide +kernel
theorem dX2_init_74 : decode cX2_init 74 = .ok (.aload_n 1, 1) := by decide +kernel
theorem dX2_init_75 : decode cX2_init 75 = .ok (.getfield 55, 3) := by decide +kernel
theorem dX2_init_78 : decode cX2_init 78 = .ok (.if_icmp .ge 24, 3) := by decide +kernel
theorem dX2_init_81 : decode cX2_init 81 = .ok (.aload_n 0, 1) := by decide +kernel
theorem dX2_init_82 : decode cX2_init 82 = .ok (.getfield 13, 3) := by decide +kernel
theorem dX2_init_85 : decode cX2_init 85 = .ok (.bipush 20, 2) := by decide +kernel
theorem dX2_init_87 : decode cX2_init 87 = .ok (.iload_n 3, 1) := by decide +kernel
theorem dX2_init_88 : decode cX2_init 88 = .ok (.iadd, 1) := by decide +kernel
theorem dX2_init_89 : decode cX2_init 89 = .ok (.aload_n 1, 1) := by decide +kernel
theorem dX2_init_90 : decode cX2_init 90 = .ok (.getfield 58, 3) := by decide +kernel
theorem dX2_init_93 : decode cX2_init 93 = .ok (.iload_n 3, 1) := by decide +kernel
theorem dX2_init_94 : decode cX2_init 94 = .ok (.iaload, 1) := by decide +kernel
theorem dX2_init_95 : decode cX2_init 95 = .ok (.iastore, 1) := by decide +kernel
theorem dX2_init_96 : decode cX2_init 96 = .ok (.iinc 3 1, 3) := by decide +kernel
theorem dX2_init_99 : decode cX2_init 99 = .ok (.goto (-26), 3) := by decide +kernel
theorem dX2_init_102 : decode cX2_init 102 = .ok (.return_, 1) := by decide +kernel
theorem dX2_hasEnded_0 : decode cX2_hasEnded 0 = .ok (.aload_n 0, 1) := by decide +kernel
theorem dX2_hasEnded_1 : decode cX2_hasEnded 1 = .ok (.getfield 13, 3) := by decide +kernel
theorem dX2_hasEnded_4 : decode cX2_hasEnded 4 = .ok (.iconst 3, 1) := by decide +kernel
theorem dX2_hasEnded_5 : decode cX2_hasEnded 5 = .ok (.iaload, 1) := by decide +kernel
theorem dX2_hasEnded_6 : decode cX2_hasEnded 6 = .ok (.ifCond .eq 7, 3) := by decide +kernel
theorem dX2_hasEnded_9 : decode cX2_hasEnded 9 = .ok (.iconst 1, 1) := by decide +kernel
theorem dX2_hasEnded_10 : decode cX2_hasEnded 10 = .ok (.goto 4, 3) := by decide +kernel
theorem dX2_hasEnded_13 : decode cX2_hasEnded 13 = .ok (.iconst 0, 1) := by decide +kernel
theorem dX2_hasEnded_14 : decode cX2_hasEnded 14 = .ok (.ireturn, 1) := by decide +kernel
theorem dX2_take_0 : decode cX2_take 0 = .ok (.aload_n 0, 1) := by decide +kernel
theorem dX2_take_1 : decode cX2_take 1 = .ok (.iload_n 2, 1) := by decide +kernel
theorem dX2_take_2 : decode cX2_take 2 = .ok (.ifCond .eq 14, 3) := by decide +kernel
theorem dX2_take_5 : decode cX2_take 5 = .ok (.aload_n 0, 1) := by decide +kernel
theorem dX2_take_6 : decode cX2_take 6 = .ok (.getfield 61, 3) := by decide +kernel
theorem dX2_take_9 : decode cX2_take 9 = .ok (.iconst 1, 1) := by decide +kernel
theorem dX2_take_10 : decode cX2_take 10 = .ok (.iload_n 1, 1) := by decide +kernel
theorem dX2_take_11 : decode cX2_take 11 = .ok (.ishl, 1) := by decide +kernel
theorem dX2_take_12 : decode cX2_take 12 = .ok (.ior, 1) := by decide +kernel
theorem dX2_take_13 : decode cX2_take 13 = .ok (.goto 13, 3) := by decide +kernel
theorem dX2_take_16 : decode cX2_take 16 = .ok (.aload_n 0, 1) := by decide +kernel
theorem dX2_take_17 : decode cX2_take 17 = .ok (.getfield 61, 3) := by decide +kernel
theorem dX2_take_20 : decode cX2_take 20 = .ok (.iconst 1, 1) := by decide +kernel
theorem dX2_take_21 : decode cX2_take 21 = .ok (.iload_n 1, 1) := by decide +kernel
theorem dX2_take_22 : decode cX2_take 22 = .ok (.ishl, 1) := by decide +kernel
theorem dX2_take_23 : decode cX2_take 23 = .ok (.iconst (-1), 1) := by decide +kernel
theorem dX2_take_24 : decode cX2_take 24 = .ok (.ixor, 1) := by decide +kernel
theorem dX2_take_25 : decode cX2_take 25 = .ok (.iand, 1) := by decide +kernel
theorem dX2_take_26 : decode cX2_take 26 = .ok (.putfield 61, 3) := by decide +kernel
theorem dX2_take_29 : decode cX2_take 29 = .ok (.aload_n 0, 1) := by decide +kernel
theorem dX2_take_30 : decode cX2_take 30 = .ok (.getfield 25, 3) := by decide +kernel
theorem dX2_take_33 : decode cX2_take 33 = .ok (.iload_n 1, 1) := by decide +kernel
theorem dX2_take_34 : decode cX2_take 34 = .ok (.iload_n 3, 1) := by decide +kernel
theorem dX2_take_35 : decode cX2_take 35 = .ok (.iastore, 1) := by decide +kernel
theorem dX2_take_36 : decode cX2_take 36 = .ok (.return_, 1) := by decide +kernel
theorem dX2_react_0 : decode cX2_react 0 = .ok (.aload_n 0, 1) := by decide +kernel
theorem dX2_react_1 : decode cX2_react 1 = .ok (.getfield 35, 3) := by decide +kernel
theorem dX2_react_4 : decode cX2_react 4 = .ok (.getfield 64, 3) := by decide +kernel
theorem dX2_react_7 : decode cX2_react 7 = .ok (.astore_n 1, 1) := by decide +kernel
theorem dX2_react_8 : decode cX2_react 8 = .ok (.aload_n 0, 1) := by decide +kernel
theorem dX2_react_9 : decode cX2_react 9 = .ok (.invokevirtual 68, 3) := by decide +kernel
theorem dX2_react_12 : decode cX2_react 12 = .ok (.aload_n 1, 1) := by decide +kernel
theorem dX2_react_13 : decode cX2_react 13 = .ok (.aload_n 0, 1) := by decide +kernel
theorem dX2_react_14 : decode cX2_react 14 = .ok (.getfield 13, 3) := by decide +kernel
theorem dX2_react_17 : decode cX2_react 17 = .ok (.iconst 0, 1) := by decide +kernel
theorem dX2_react_18 : decode cX2_react 18 = .ok (.iaload, 1) := by decide +kernel
theorem dX2_react_19 : decode cX2_react 19 = .ok (.aload_n 0, 1) := by decide +kernel
theorem dX2_react_20 : decode cX2_react 20 = .ok (.getfield 13, 3) := by decide +kernel
theorem dX2_react_23 : decode cX2_react 23 = .ok (.iconst 1, 1) := by decide +kernel
theorem dX2_react_24 : decode cX2_react 24 = .ok (.iaload, 1) := by decide +kernel
theorem dX2_react_25 : decode cX2_react 25 = .ok (.aload_n 0, 1) := by decide +kernel
theorem dX2_react_26 : decode cX2_react 26 = .ok (.getfield 13, 3) := by decide +kernel
theorem dX2_react_29 : decode cX2_react 29 = .ok (.iconst 2, 1) := by decide +kernel
theorem dX2_react_30 : decode cX2_react 30 = .ok (.iaload, 1) := by decide +kernel
theorem dX2_react_31 : decode cX2_react 31 = .ok (.ifCond .ne 7, 3) := by decide +kernel
theorem dX2_react_34 : decode cX2_react 34 = .ok (.iconst 1, 1) := by decide +kernel
theorem dX2_react_35 : decode cX2_react 35 = .ok (.goto 4, 3) := by decide +kernel
theorem dX2_react_38 : decode cX2_react 38 = .ok (.iconst 0, 1) := by decide +kernel
theorem dX2_react_39 : decode cX2_react 39 = .ok (.invokevirtual 71, 3) := by decide +kernel
theorem dX2_react_42 : decode cX2_react 42 = .ok (.aload_n 0, 1) := by decide +kernel
theorem dX2_react_43 : decode cX2_react 43 = .ok (.aload_n 1, 1) := by decide +kernel
theorem dX2_react_44 : decode cX2_react 44 = .ok (.invokevirtual 77, 3) := by decide +kernel
theorem dX2_react_47 : decode cX2_react 47 = .ok (.aload_n 1, 1) := by decide +kernel
theorem dX2_react_48 : decode cX2_react 48 = .ok (.invokevirtual 81, 3) := by decide +kernel
theorem dX2_react_51 : decode cX2_react 51 = .ok (.aload_n 0, 1) := by decide +kernel
theorem dX2_react_52 : decode cX2_react 52 = .ok (.aload_n 1, 1) := by decide +kernel
theorem dX2_react_53 : decode cX2_react 53 = .ok (.invokevirtual 84, 3) := by decide +kernel
theorem dX2_react_56 : decode cX2_react 56 = .ok (.aload_n 1, 1) := by decide +kernel
theorem dX2_react_57 : decode cX2_react 57 = .ok (.invokevirtual 87, 3) := by decide +kernel
theorem dX2_react_60 : decode cX2_react 60 = .ok (.ifCond .eq 11, 3) := by decide +kernel
theorem dX2_react_63 : decode cX2_react 63 = .ok (.aload_n 0, 1) := by decide +kernel
theorem dX2_react_64 : decode cX2_react 64 = .ok (.iconst 3, 1) := by decide +kernel
theorem dX2_react_65 : decode cX2_react 65 = .ok (.putfield 28, 3) := by decide +kernel
theorem dX2_react_68 : decode cX2_react 68 = .ok (.goto 8, 3) := by decide +kernel
theorem dX2_react_71 : decode cX2_react 71 = .ok (.aload_n 0, 1) := by decide +kernel
theorem dX2_react_72 : decode cX2_react 72 = .ok (.aload_n 1, 1) := by decide +kernel
theorem dX2_react_73 : decode cX2_react 73 = .ok (.invokevirtual 90, 3) := by decide +kernel
theorem dX2_react_76 : decode cX2_react 76 = .ok (.aload_n 0, 1) := by decide +kernel
theorem dX2_react_77 : decode cX2_react 77 = .ok (.iconst 0, 1) := by decide +kernel
theorem dX2_react_78 : decode cX2_react 78 = .ok (.putfield 61, 3) := by decide +kernel
theorem dX2_react_81 : decode cX2_react 81 = .ok (.aload_n 0, 1) := by decide +kernel
theorem dX2_react_82 : decode cX2_react 82 = .ok (.getfield 28, 3) := by decide +kernel
theorem dX2_react_85 : decode cX2_react 85 = .ok (.ireturn, 1) := by decide +kernel
theorem dX2_forgetBeat_0 : decode cX2_forgetBeat 0 = .ok (.aload_n 0, 1) := by decide +kernel
theorem dX2_forgetBeat_1 : decode cX2_forgetBeat 1 = .ok (.iconst 0, 1) := by decide +kernel
theorem dX2_forgetBeat_2 : decode cX2_forgetBeat 2 = .ok (.putfield 93, 3) := by decide +kernel
theorem dX2_forgetBeat_5 : decode cX2_forgetBeat 5 = .ok (.aload_n 0, 1) := by decide +kernel
theorem dX2_forgetBeat_6 : decode cX2_forgetBeat 6 = .ok (.iconst 0, 1) := by decide +kernel
theorem dX2_forgetBeat_7 : decode cX2_forgetBeat 7 = .ok (.putfield 96, 3) := by decide +kernel
theorem dX2_forgetBeat_10 : decode cX2_forgetBeat 10 = .ok (.aload_n 0, 1) := by decide +kernel
theorem dX2_forgetBeat_11 : decode cX2_forgetBeat 11 = .ok (.iconst (-1), 1) := by decide +kernel
theorem dX2_forgetBeat_12 : decode cX2_forgetBeat 12 = .ok (.putfield 32, 3) := by decide +kernel
theorem dX2_forgetBeat_15 : decode cX2_forgetBeat 15 = .ok (.return_, 1) := by decide +kernel
theorem dX2_tellMoves_0 : decode cX2_tellMoves 0 = .ok (.iconst 0, 1) := by decide +kernel
theorem dX2_tellMoves_1 : decode cX2_tellMoves 1 = .ok (.istore_n 2, 1) := by decide +kernel
theorem dX2_tellMoves_2 : decode cX2_tellMoves 2 = .ok (.iload_n 2, 1) := by decide +kernel
theorem dX2_tellMoves_3 : decode cX2_tellMoves 3 = .ok (.aload_n 0, 1) := by decide +kernel
theorem dX2_tellMoves_4 : decode cX2_tellMoves 4 = .ok (.getfield 35, 3) := by decide +kernel
theorem dX2_tellMoves_7 : decode cX2_tellMoves 7 = .ok (.getfield 99, 3) := by decide +kernel
theorem dX2_tellMoves_10 : decode cX2_tellMoves 10 = .ok (.if_icmp .ge 38, 3) := by decide +kernel
theorem dX2_tellMoves_13 : decode cX2_tellMoves 13 = .ok (.aload_n 1, 1) := by decide +kernel
theorem dX2_tellMoves_14 : decode cX2_tellMoves 14 = .ok (.aload_n 0, 1) := by decide +kernel
theorem dX2_tellMoves_15 : decode cX2_tellMoves 15 = .ok (.getfield 35, 3) := by decide +kernel
theorem dX2_tellMoves_18 : decode cX2_tellMoves 18 = .ok (.getfield 102, 3) := by decide +kernel
theorem dX2_tellMoves_21 : decode cX2_tellMoves 21 = .ok (.iload_n 2, 1) := by decide +kernel
theorem dX2_tellMoves_22 : decode cX2_tellMoves 22 = .ok (.iaload, 1) := by decide +kernel
theorem dX2_tellMoves_23 : decode cX2_tellMoves 23 = .ok (.aload_n 0, 1) := by decide +kernel
theorem dX2_tellMoves_24 : decode cX2_tellMoves 24 = .ok (.getfield 61, 3) := by decide +kernel
theorem dX2_tellMoves_27 : decode cX2_tellMoves 27 = .ok (.iload_n 2, 1) := by decide +kernel
theorem dX2_tellMoves_28 : decode cX2_tellMoves 28 = .ok (.iushr, 1) := by decide +kernel
theorem dX2_tellMoves_29 : decode cX2_tellMoves 29 = .ok (.iconst 1, 1) := by decide +kernel
theorem dX2_tellMoves_30 : decode cX2_tellMoves 30 = .ok (.iand, 1) := by decide +kernel
theorem dX2_tellMoves_31 : decode cX2_tellMoves 31 = .ok (.ifCond .eq 7, 3) := by decide +kernel
theorem dX2_tellMoves_34 : decode cX2_tellMoves 34 = .ok (.iconst (-1), 1) := by decide +kernel
theorem dX2_tellMoves_35 : decode cX2_tellMoves 35 = .ok (.goto 4, 3) := by decide +kernel
theorem dX2_tellMoves_38 : decode cX2_tellMoves 38 = .ok (.iconst 0, 1) := by decide +kernel
theorem dX2_tellMoves_39 : decode cX2_tellMoves 39 = .ok (.invokevirtual 105, 3) := by decide +kernel
theorem dX2_tellMoves_42 : decode cX2_tellMoves 42 = .ok (.iinc 2 1, 3) := by decide +kernel
theorem dX2_tellMoves_45 : decode cX2_tellMoves 45 = .ok (.goto (-43), 3) := by decide +kernel
theorem dX2_tellMoves_48 : decode cX2_tellMoves 48 = .ok (.iconst 0, 1) := by decide +kernel
theorem dX2_tellMoves_49 : decode cX2_tellMoves 49 = .ok (.istore_n 2, 1) := by decide +kernel
theorem dX2_tellMoves_50 : decode cX2_tellMoves 50 = .ok (.iload_n 2, 1) := by decide +kernel
theorem dX2_tellMoves_51 : decode cX2_tellMoves 51 = .ok (.aload_n 0, 1) := by decide +kernel
theorem dX2_tellMoves_52 : decode cX2_tellMoves 52 = .ok (.getfield 35, 3) := by decide +kernel
theorem dX2_tellMoves_55 : decode cX2_tellMoves 55 = .ok (.getfield 42, 3) := by decide +kernel
theorem dX2_tellMoves_58 : decode cX2_tellMoves 58 = .ok (.invokevirtual 46, 3) := by decide +kernel
theorem dX2_tellMoves_61 : decode cX2_tellMoves 61 = .ok (.if_icmp .ge 53, 3) := by decide +kernel
theorem dX2_tellMoves_64 : decode cX2_tellMoves 64 = .ok (.aload_n 0, 1) := by decide +kernel
theorem dX2_tellMoves_65 : decode cX2_tellMoves 65 = .ok (.getfield 35, 3) := by decide +kernel
theorem dX2_tellMoves_68 : decode cX2_tellMoves 68 = .ok (.getfield 42, 3) := by decide +kernel
theorem dX2_tellMoves_71 : decode cX2_tellMoves 71 = .ok (.iload_n 2, 1) := by decide +kernel
theorem dX2_tellMoves_72 : decode cX2_tellMoves 72 = .ok (.invokevirtual 109, 3) := by decide +kernel
theorem dX2_tellMoves_75 : decode cX2_tellMoves 75 = .ok (.checkcast 113, 3) := by decide +kernel
theorem dX2_tellMoves_78 : decode cX2_tellMoves 78 = .ok (.astore_n 3, 1) := by decide +kernel
theorem dX2_tellMoves_79 : decode cX2_tellMoves 79 = .ok (.aload_n 3, 1) := by decide +kernel
theorem dX2_tellMoves_80 : decode cX2_tellMoves 80 = .ok (.getfield 115, 3) := by decide +kernel
theorem dX2_tellMoves_83 : decode cX2_tellMoves 83 = .ok (.iconst 3, 1) := by decide +kernel
theorem dX2_tellMoves_84 : decode cX2_tellMoves 84 = .ok (.if_icmp .ne 24, 3) := by decide +kernel
theorem dX2_tellMoves_87 : decode cX2_tellMoves 87 = .ok (.aload_n 1, 1) := by decide +kernel
theorem dX2_tellMoves_88 : decode cX2_tellMoves 88 = .ok (.aload_n 3, 1) := by decide +kernel
theorem dX2_tellMoves_89 : decode cX2_tellMoves 89 = .ok (.getfield 118, 3) := by decide +kernel
theorem dX2_tellMoves_92 : decode cX2_tellMoves 92 = .ok (.aload_n 0, 1) := by decide +kernel
theorem dX2_tellMoves_93 : decode cX2_tellMoves 93 = .ok (.aload_n 3, 1) := by decide +kernel
theorem dX2_tellMoves_94 : decode cX2_tellMoves 94 = .ok (.invokevirtual 121, 3) := by decide +kernel
theorem dX2_tellMoves_97 : decode cX2_tellMoves 97 = .ok (.ifCond .eq 7, 3) := by decide +kernel
theorem dX2_tellMoves_100 : decode cX2_tellMoves 100 = .ok (.iconst (-1), 1) := by decide +kernel
theorem dX2_tellMoves_101 : decode cX2_tellMoves 101 = .ok (.goto 4, 3) := by decide +kernel
theorem dX2_tellMoves_104 : decode cX2_tellMoves 104 = .ok (.iconst 0, 1) := by decide +kernel
theorem dX2_tellMoves_105 : decode cX2_tellMoves 105 = .ok (.invokevirtual 125, 3) := by decide +kernel
theorem dX2_tellMoves_108 : decode cX2_tellMoves 108 = .ok (.iinc 2 1, 3) := by decide +kernel
theorem dX2_tellMoves_111 : decode cX2_tellMoves 111 = .ok (.goto (-61), 3) := by decide +kernel
theorem dX2_tellMoves_114 : decode cX2_tellMoves 114 = .ok (.return_, 1) := by decide +kernel
theorem dX2_isSo_0 : decode cX2_isSo 0 = .ok (.aload_n 0, 1) := by decide +kernel
theorem dX2_isSo_1 : decode cX2_isSo 1 = .ok (.getfield 35, 3) := by decide +kernel
theorem dX2_isSo_4 : decode cX2_isSo 4 = .ok (.getfield 128, 3) := by decide +kernel
theorem dX2_isSo_7 : decode cX2_isSo 7 = .ok (.aload_n 1, 1) := by decide +kernel
theorem dX2_isSo_8 : decode cX2_isSo 8 = .ok (.getfield 132, 3) := by decide +kernel
theorem dX2_isSo_11 : decode cX2_isSo 11 = .ok (.aload_n 0, 1) := by decide +kernel
theorem dX2_isSo_12 : decode cX2_isSo 12 = .ok (.getfield 13, 3) := by decide +kernel
theorem dX2_isSo_15 : decode cX2_isSo 15 = .ok (.invokevirtual 135, 3) := by decide +kernel
theorem dX2_isSo_18 : decode cX2_isSo 18 = .ok (.istore_n 2, 1) := by decide +kernel
theorem dX2_isSo_19 : decode cX2_isSo 19 = .ok (.aload_n 0, 1) := by decide +kernel
theorem dX2_isSo_20 : decode cX2_isSo 20 = .ok (.getfield 35, 3) := by decide +kernel
theorem dX2_isSo_23 : decode cX2_isSo 23 = .ok (.getfield 128, 3) := by decide +kernel
theorem dX2_isSo_26 : decode cX2_isSo 26 = .ok (.getfield 141, 3) := by decide +kernel
theorem dX2_isSo_29 : decode cX2_isSo 29 = .ok (.ifCond .eq 5, 3) := by decide +kernel
theorem dX2_isSo_32 : decode cX2_isSo 32 = .ok (.iconst 0, 1) := by decide +kernel
theorem dX2_isSo_33 : decode cX2_isSo 33 = .ok (.ireturn, 1) := by decide +kernel
theorem dX2_isSo_34 : decode cX2_isSo 34 = .ok (.aload_n 0, 1) := by decide +kernel
theorem dX2_isSo_35 : decode cX2_isSo 35 = .ok (.getfield 35, 3) := by decide +kernel
theorem dX2_isSo_38 : decode cX2_isSo 38 = .ok (.getfield 128, 3) := by decide +kernel
theorem dX2_isSo_41 : decode cX2_isSo 41 = .ok (.aload_n 1, 1) := by decide +kernel
theorem dX2_isSo_42 : decode cX2_isSo 42 = .ok (.getfield 142, 3) := by decide +kernel
theorem dX2_isSo_45 : decode cX2_isSo 45 = .ok (.aload_n 0, 1) := by decide +kernel
theorem dX2_isSo_46 : decode cX2_isSo 46 = .ok (.getfield 13, 3) := by decide +kernel
theorem dX2_isSo_49 : decode cX2_isSo 49 = .ok (.invokevirtual 135, 3) := by decide +kernel
theorem dX2_isSo_52 : decode cX2_isSo 52 = .ok (.istore_n 3, 1) := by decide +kernel
theorem dX2_isSo_53 : decode cX2_isSo 53 = .ok (.aload_n 0, 1) := by decide +kernel
theorem dX2_isSo_54 : decode cX2_isSo 54 = .ok (.getfield 35, 3) := by decide +kernel
theorem dX2_isSo_57 : decode cX2_isSo 57 = .ok (.getfield 128, 3) := by decide +kernel
theorem dX2_isSo_60 : decode cX2_isSo 60 = .ok (.getfield 141, 3) := by decide +kernel
theorem dX2_isSo_63 : decode cX2_isSo 63 = .ok (.ifCond .ne 19, 3) := by decide +kernel
theorem dX2_isSo_66 : decode cX2_isSo 66 = .ok (.aload_n 1, 1) := by decide +kernel
theorem dX2_isSo_67 : decode cX2_isSo 67 = .ok (.getfield 145, 3) := by decide +kernel
theorem dX2_isSo_70 : decode cX2_isSo 70 = .ok (.iload_n 2, 1) := by decide +kernel
theorem dX2_isSo_71 : decode cX2_isSo 71 = .ok (.iload_n 3, 1) := by decide +kernel
theorem dX2_isSo_72 : decode cX2_isSo 72 = .ok (.invokestatic 148, 3) := by decide +kernel
theorem dX2_isSo_75 : decode cX2_isSo 75 = .ok (.ifCond .eq 7, 3) := by decide +kernel
theorem dX2_isSo_78 : decode cX2_isSo 78 = .ok (.iconst 1, 1) := by decide +kernel
theorem dX2_isSo_79 : decode cX2_isSo 79 = .ok (.goto 4, 3) := by decide +kernel
theorem dX2_isSo_82 : decode cX2_isSo 82 = .ok (.iconst 0, 1) := by decide +kernel
theorem dX2_isSo_83 : decode cX2_isSo 83 = .ok (.ireturn, 1) := by decide +kernel
theorem dX2_recordWires_0 : decode cX2_recordWires 0 = .ok (.iconst 0, 1) := by decide +kernel
theorem dX2_recordWires_1 : decode cX2_recordWires 1 = .ok (.istore_n 2, 1) := by decide +kernel
theorem dX2_recordWires_2 : decode cX2_recordWires 2 = .ok (.iload_n 2, 1) := by decide +kernel
theorem dX2_recordWires_3 : decode cX2_recordWires 3 = .ok (.aload_n 0, 1) := by decide +kernel
theorem dX2_recordWires_4 : decode cX2_recordWires 4 = .ok (.getfield 52, 3) := by decide +kernel
theorem dX2_recordWires_7 : decode cX2_recordWires 7 = .ok (.arraylength, 1) := by decide +kernel
theorem dX2_recordWires_8 : decode cX2_recordWires 8 = .ok (.if_icmp .ge 99, 3) := by decide +kernel
theorem dX2_recordWires_11 : decode cX2_recordWires 11 = .ok (.aload_n 0, 1) := by decide +kernel
theorem dX2_recordWires_12 : decode cX2_recordWires 12 = .ok (.getfield 35, 3) := by decide +kernel
theorem dX2_recordWires_15 : decode cX2_recordWires 15 = .ok (.getfield 42, 3) := by decide +kernel
theorem dX2_recordWires_18 : decode cX2_recordWires 18 = .ok (.iload_n 2, 1) := by decide +kernel
theorem dX2_recordWires_19 : decode cX2_recordWires 19 = .ok (.invokevirtual 109, 3) := by decide +kernel
theorem dX2_recordWires_22 : decode cX2_recordWires 22 = .ok (.checkcast 113, 3) := by decide +kernel
theorem dX2_recordWires_25 : decode cX2_recordWires 25 = .ok (.astore_n 3, 1) := by decide +kernel
theorem dX2_recordWires_26 : decode cX2_recordWires 26 = .ok (.aload_n 3, 1) := by decide +kernel
theorem dX2_recordWires_27 : decode cX2_recordWires 27 = .ok (.getfield 151, 3) := by decide +kernel
theorem dX2_recordWires_30 : decode cX2_recordWires 30 = .ok (.aload_n 0, 1) := by decide +kernel
theorem dX2_recordWires_31 : decode cX2_recordWires 31 = .ok (.getfield 13, 3) := by decide +kernel
theorem dX2_recordWires_34 : decode cX2_recordWires 34 = .ok (.iconst 0, 1) := by decide +kernel
theorem dX2_recordWires_35 : decode cX2_recordWires 35 = .ok (.iaload, 1) := by decide +kernel
theorem dX2_recordWires_36 : decode cX2_recordWires 36 = .ok (.iand, 1) := by decide +kernel
theorem dX2_recordWires_37 : decode cX2_recordWires 37 = .ok (.ifCond .eq 7, 3) := by decide +kernel
theorem dX2_recordWires_40 : decode cX2_recordWires 40 = .ok (.iconst 1, 1) := by decide +kernel
theorem dX2_recordWires_41 : decode cX2_recordWires 41 = .ok (.goto 4, 3) := by decide +kernel
theorem dX2_recordWires_44 : decode cX2_recordWires 44 = .ok (.iconst 0, 1) := by decide +kernel
theorem dX2_recordWires_45 : decode cX2_recordWires 45 = .ok (.istore 4, 2) := by decide +kernel
theorem dX2_recordWires_47 : decode cX2_recordWires 47 = .ok (.aload_n 0, 1) := by decide +kernel
theorem dX2_recordWires_48 : decode cX2_recordWires 48 = .ok (.getfield 52, 3) := by decide +kernel
theorem dX2_recordWires_51 : decode cX2_recordWires 51 = .ok (.iload_n 2, 1) := by decide +kernel
theorem dX2_recordWires_52 : decode cX2_recordWires 52 = .ok (.aload_n 1, 1) := by decide +kernel
theorem dX2_recordWires_53 : decode cX2_recordWires 53 = .ok (.aload_n 3, 1) := by decide +kernel
theorem dX2_recordWires_54 : decode cX2_recordWires 54 = .ok (.getfield 154, 3) := by decide +kernel
theorem dX2_recordWires_57 : decode cX2_recordWires 57 = .ok (.invokevirtual 157, 3) := by decide +kernel
theorem dX2_recordWires_60 : decode cX2_recordWires 60 = .ok (.iload 4, 2) := by decide +kernel
theorem dX2_recordWires_62 : decode cX2_recordWires 62 = .ok (.iconst 2, 1) := by decide +kernel
theorem dX2_recordWires_63 : decode cX2_recordWires 63 = .ok (.ishl, 1) := by decide +kernel
theorem dX2_recordWires_64 : decode cX2_recordWires 64 = .ok (.ior, 1) := by decide +kernel
theorem dX2_recordWires_65 : decode cX2_recordWires 65 = .ok (.aload_n 1, 1) := by decide +kernel
theorem dX2_recordWires_66 : decode cX2_recordWires 66 = .ok (.aload_n 3, 1) := by decide +kernel
theorem dX2_recordWires_67 : decode cX2_recordWires 67 = .ok (.getfield 161, 3) := by decide +kernel
theorem dX2_recordWires_70 : decode cX2_recordWires 70 = .ok (.invokevirtual 157, 3) := by decide +kernel
theorem dX2_recordWires_73 : decode cX2_recordWires 73 = .ok (.iconst 4, 1) := by decide +kernel
theorem dX2_recordWires_74 : decode cX2_recordWires 74 = .ok (.ishl, 1) := by decide +kernel
theorem dX2_recordWires_75 : decode cX2_recordWires 75 = .ok (.ior, 1) := by decide +kernel
theorem dX2_recordWires_76 : decode cX2_recordWires 76 = .ok (.aload_n 1, 1) := by decide +kernel
theorem dX2_recordWires_77 : decode cX2_recordWires 77 = .ok (.aload_n 3, 1) := by decide +kernel
theorem dX2_recordWires_78 : decode cX2_recordWires 78 = .ok (.getfield 164, 3) := by decide +kernel
theorem dX2_recordWires_81 : decode cX2_recordWires 81 = .ok (.invokevirtual 157, 3) := by decide +kernel
theorem dX2_recordWires_84 : decode cX2_recordWires 84 = .ok (.bipush 6, 2) := by decide +kernel
theorem dX2_recordWires_86 : decode cX2_recordWires 86 = .ok (.ishl, 1) := by decide +kernel
theorem dX2_recordWires_87 : decode cX2_recordWires 87 = .ok (.ior, 1) := by decide +kernel
theorem dX2_recordWires_88 : decode cX2_recordWires 88 = .ok (.aload_n 1, 1) := by decide +kernel
theorem dX2_recordWires_89 : decode cX2_recordWires 89 = .ok (.aload_n 3, 1) := by decide +kernel
theorem dX2_recordWires_90 : decode cX2_recordWires 90 = .ok (.getfield 167, 3) := by decide +kernel
theorem dX2_recordWires_93 : decode cX2_recordWires 93 = .ok (.invokevirtual 157, 3) := by decide +kernel
theorem dX2_recordWires_96 : decode cX2_recordWires 96 = .ok (.bipush 8, 2) := by decide +kernel
theorem dX2_recordWires_98 : decode cX2_recordWires 98 = .ok (.ishl, 1) := by decide +kernel
theorem dX2_recordWires_99 : decode cX2_recordWires 99 = .ok (.ior, 1) := by decide +kernel
theorem dX2_recordWires_100 : decode cX2_recordWires 100 = .ok (.iastore, 1) := by decide +kernel
theorem dX2_recordWires_101 : decode cX2_recordWires 101 = .ok (.iinc 2 1, 3) := by decide +kernel
theorem dX2_recordWires_104 : decode cX2_recordWires 104 = .ok (.goto (-102), 3) := by decide +kernel
theorem dX2_recordWires_107 : decode cX2_recordWires 107 = .ok (.return_, 1) := by decide +kernel
theorem dX2_wireOf_0 : decode cX2_wireOf 0 = .ok (.iload_n 1, 1) := by decide +kernel
theorem dX2_wireOf_1 : decode cX2_wireOf 1 = .ok (.aload_n 0, 1) := by decide +kernel
theorem dX2_wireOf_2 : decode cX2_wireOf 2 = .ok (.getfield 52, 3) := by decide +kernel
theorem dX2_wireOf_5 : decode cX2_wireOf 5 = .ok (.arraylength, 1) := by decide +kernel
theorem dX2_wireOf_6 : decode cX2_wireOf 6 = .ok (.if_icmp .ge 18, 3) := by decide +kernel
theorem dX2_wireOf_9 : decode cX2_wireOf 9 = .ok (.aload_n 0, 1) := by decide +kernel
theorem dX2_wireOf_10 : decode cX2_wireOf 10 = .ok (.getfield 52, 3) := by decide +kernel
theorem dX2_wireOf_13 : decode cX2_wireOf 13 = .ok (.iload_n 1, 1) := by decide +kernel
theorem dX2_wireOf_14 : decode cX2_wireOf 14 = .ok (.iaload, 1) := by decide +kernel
theorem dX2_wireOf_15 : decode cX2_wireOf 15 = .ok (.iconst 2, 1) := by decide +kernel
theorem dX2_wireOf_16 : decode cX2_wireOf 16 = .ok (.iload_n 2, 1) := by decide +kernel
theorem dX2_wireOf_17 : decode cX2_wireOf 17 = .ok (.imul, 1) := by decide +kernel
theorem dX2_wireOf_18 : decode cX2_wireOf 18 = .ok (.iushr, 1) := by decide +kernel
theorem dX2_wireOf_19 : decode cX2_wireOf 19 = .ok (.iconst 3, 1) := by decide +kernel
theorem dX2_wireOf_20 : decode cX2_wireOf 20 = .ok (.iand, 1) := by decide +kernel
theorem dX2_wireOf_21 : decode cX2_wireOf 21 = .ok (.goto 4, 3) := by decide +kernel
theorem dX2_wireOf_24 : decode cX2_wireOf 24 = .ok (.iconst 0, 1) := by decide +kernel
theorem dX2_wireOf_25 : decode cX2_wireOf 25 = .ok (.ireturn, 1) := by decide +kernel
theorem dX2_workBeat_0 : decode cX2_workBeat 0 = .ok (.aload_n 0, 1) := by decide +kernel
theorem dX2_workBeat_1 : decode cX2_workBeat 1 = .ok (.getfield 13, 3) := by decide +kernel
theorem dX2_workBeat_4 : decode cX2_workBeat 4 = .ok (.iconst 0, 1) := by decide +kernel
theorem dX2_workBeat_5 : decode cX2_workBeat 5 = .ok (.aload_n 0, 1) := by decide +kernel
theorem dX2_workBeat_6 : decode cX2_workBeat 6 = .ok (.getfield 17, 3) := by decide +kernel
theorem dX2_workBeat_9 : decode cX2_workBeat 9 = .ok (.iconst 0, 1) := by decide +kernel
theorem dX2_workBeat_10 : decode cX2_workBeat 10 = .ok (.bipush 26, 2) := by decide +kernel
theorem dX2_workBeat_12 : decode cX2_workBeat 12 = .ok (.invokestatic 170, 3) := by decide +kernel
theorem dX2_workBeat_15 : decode cX2_workBeat 15 = .ok (.aload_n 0, 1) := by decide +kernel
theorem dX2_workBeat_16 : decode cX2_workBeat 16 = .ok (.invokevirtual 176, 3) := by decide +kernel
theorem dX2_workBeat_19 : decode cX2_workBeat 19 = .ok (.aload_n 0, 1) := by decide +kernel
theorem dX2_workBeat_20 : decode cX2_workBeat 20 = .ok (.iconst 0, 1) := by decide +kernel
theorem dX2_workBeat_21 : decode cX2_workBeat 21 = .ok (.putfield 179, 3) := by decide +kernel
theorem dX2_workBeat_24 : decode cX2_workBeat 24 = .ok (.iconst 0, 1) := by decide +kernel
theorem dX2_workBeat_25 : decode cX2_workBeat 25 = .ok (.istore_n 2, 1) := by decide +kernel
theorem dX2_workBeat_26 : decode cX2_workBeat 26 = .ok (.iload_n 2, 1) := by decide +kernel
theorem dX2_workBeat_27 : decode cX2_workBeat 27 = .ok (.aload_n 0, 1) := by decide +kernel
theorem dX2_workBeat_28 : decode cX2_workBeat 28 = .ok (.getfield 35, 3) := by decide +kernel
theorem dX2_workBeat_31 : decode cX2_workBeat 31 = .ok (.getfield 42, 3) := by decide +kernel
theorem dX2_workBeat_34 : decode cX2_workBeat 34 = .ok (.invokevirtual 46, 3) := by decide +kernel
theorem dX2_workBeat_37 : decode cX2_workBeat 37 = .ok (.if_icmp .ge 71, 3) := by decide +kernel
theorem dX2_workBeat_40 : decode cX2_workBeat 40 = .ok (.aload_n 0, 1) := by decide +kernel
theorem dX2_workBeat_41 : decode cX2_workBeat 41 = .ok (.getfield 96, 3) := by decide +kernel
theorem dX2_workBeat_44 : decode cX2_workBeat 44 = .ok (.ifCond .ne 64, 3) := by decide +kernel
theorem dX2_workBeat_47 : decode cX2_workBeat 47 = .ok (.aload_n 0, 1) := by decide +kernel
theorem dX2_workBeat_48 : decode cX2_workBeat 48 = .ok (.getfield 35, 3) := by decide +kernel
theorem dX2_workBeat_51 : decode cX2_workBeat 51 = .ok (.getfield 42, 3) := by decide +kernel
theorem dX2_workBeat_54 : decode cX2_workBeat 54 = .ok (.iload_n 2, 1) := by decide +kernel
theorem dX2_workBeat_55 : decode cX2_workBeat 55 = .ok (.invokevirtual 109, 3) := by decide +kernel
theorem dX2_workBeat_58 : decode cX2_workBeat 58 = .ok (.checkcast 113, 3) := by decide +kernel
theorem dX2_workBeat_61 : decode cX2_workBeat 61 = .ok (.astore_n 3, 1) := by decide +kernel
theorem dX2_workBeat_62 : decode cX2_workBeat 62 = .ok (.aload_n 3, 1) := by decide +kernel
theorem dX2_workBeat_63 : decode cX2_workBeat 63 = .ok (.getfield 115, 3) := by decide +kernel
theorem dX2_workBeat_66 : decode cX2_workBeat 66 = .ok (.ifCond .eq 36, 3) := by decide +kernel
theorem dX2_workBeat_69 : decode cX2_workBeat 69 = .ok (.aload_n 1, 1) := by decide +kernel
theorem dX2_workBeat_70 : decode cX2_workBeat 70 = .ok (.aload_n 3, 1) := by decide +kernel
theorem dX2_workBeat_71 : decode cX2_workBeat 71 = .ok (.getfield 154, 3) := by decide +kernel
theorem dX2_workBeat_74 : decode cX2_workBeat 74 = .ok (.iconst 0, 1) := by decide +kernel
theorem dX2_workBeat_75 : decode cX2_workBeat 75 = .ok (.invokevirtual 182, 3) := by decide +kernel
theorem dX2_workBeat_78 : decode cX2_workBeat 78 = .ok (.ifCond .eq 24, 3) := by decide +kernel
theorem dX2_workBeat_81 : decode cX2_workBeat 81 = .ok (.aload_n 0, 1) := by decide +kernel
theorem dX2_workBeat_82 : decode cX2_workBeat 82 = .ok (.aload_n 3, 1) := by decide +kernel
theorem dX2_workBeat_83 : decode cX2_workBeat 83 = .ok (.invokevirtual 186, 3) := by decide +kernel
theorem dX2_workBeat_86 : decode cX2_workBeat 86 = .ok (.aload_n 0, 1) := by decide +kernel
theorem dX2_workBeat_87 : decode cX2_workBeat 87 = .ok (.aload_n 0, 1) := by decide +kernel
theorem dX2_workBeat_88 : decode cX2_workBeat 88 = .ok (.getfield 96, 3) := by decide +kernel
theorem dX2_workBeat_91 : decode cX2_workBeat 91 = .ok (.ifCond .eq 7, 3) := by decide +kernel
theorem dX2_workBeat_94 : decode cX2_workBeat 94 = .ok (.iload_n 2, 1) := by decide +kernel
theorem dX2_workBeat_95 : decode cX2_workBeat 95 = .ok (.goto 4, 3) := by decide +kernel
theorem dX2_workBeat_98 : decode cX2_workBeat 98 = .ok (.iconst (-1), 1) := by decide +kernel
theorem dX2_workBeat_99 : decode cX2_workBeat 99 = .ok (.putfield 32, 3) := by decide +kernel
theorem dX2_workBeat_102 : decode cX2_workBeat 102 = .ok (.iinc 2 1, 3) := by decide +kernel
theorem dX2_workBeat_105 : decode cX2_workBeat 105 = .ok (.goto (-79), 3) := by decide +kernel
theorem dX2_workBeat_108 : decode cX2_workBeat 108 = .ok (.aload_n 0, 1) := by decide +kernel
theorem dX2_workBeat_109 : decode cX2_workBeat 109 = .ok (.getfield 96, 3) := by decide +kernel
theorem dX2_workBeat_112 : decode cX2_workBeat 112 = .ok (.ifCond .eq 9, 3) := by decide +kernel
theorem dX2_workBeat_115 : decode cX2_workBeat 115 = .ok (.aload_n 0, 1) := by decide +kernel
theorem dX2_workBeat_116 : decode cX2_workBeat 116 = .ok (.iconst 2, 1) := by decide +kernel
theorem dX2_workBeat_117 : decode cX2_workBeat 117 = .ok (.putfield 28, 3) := by decide +kernel
theorem dX2_workBeat_120 : decode cX2_workBeat 120 = .ok (.return_, 1) := by decide +kernel
theorem dX2_workBeat_121 : decode cX2_workBeat 121 = .ok (.aload_n 0, 1) := by decide +kernel
theorem dX2_workBeat_122 : decode cX2_workBeat 122 = .ok (.aload_n 1, 1) := by decide +kernel
theorem dX2_workBeat_123 : decode cX2_workBeat 123 = .ok (.iconst 0, 1) := by decide +kernel
theorem dX2_workBeat_124 : decode cX2_workBeat 124 = .ok (.invokevirtual 190, 3) := by decide +kernel
theorem dX2_workBeat_127 : decode cX2_workBeat 127 = .ok (.putfield 93, 3) := by decide +kernel
theorem dX2_workBeat_130 : decode cX2_workBeat 130 = .ok (.aload_n 0, 1) := by decide +kernel
theorem dX2_workBeat_131 : decode cX2_workBeat 131 = .ok (.getfield 17, 3) := by decide +kernel
theorem dX2_workBeat_134 : decode cX2_workBeat 134 = .ok (.iconst 0, 1) := by decide +kernel
theorem dX2_workBeat_135 : decode cX2_workBeat 135 = .ok (.aload_n 1, 1) := by decide +kernel
theorem dX2_workBeat_136 : decode cX2_workBeat 136 = .ok (.iconst 0, 1) := by decide +kernel
theorem dX2_workBeat_137 : decode cX2_workBeat 137 = .ok (.aload_n 0, 1) := by decide +kernel
theorem dX2_workBeat_138 : decode cX2_workBeat 138 = .ok (.getfield 13, 3) := by decide +kernel
theorem dX2_workBeat_141 : decode cX2_workBeat 141 = .ok (.iconst 0, 1) := by decide +kernel
theorem dX2_workBeat_142 : decode cX2_workBeat 142 = .ok (.iaload, 1) := by decide +kernel
theorem dX2_workBeat_143 : decode cX2_workBeat 143 = .ok (.invokevirtual 193, 3) := by decide +kernel
theorem dX2_workBeat_146 : decode cX2_workBeat 146 = .ok (.iastore, 1) := by decide +kernel
theorem dX2_workBeat_147 : decode cX2_workBeat 147 = .ok (.aload_n 0, 1) := by decide +kernel
theorem dX2_workBeat_148 : decode cX2_workBeat 148 = .ok (.getfield 17, 3) := by decide +kernel
theorem dX2_workBeat_151 : decode cX2_workBeat 151 = .ok (.iconst 1, 1) := by decide +kernel
theorem dX2_workBeat_152 : decode cX2_workBeat 152 = .ok (.aload_n 0, 1) := by decide +kernel
theorem dX2_workBeat_153 : decode cX2_workBeat 153 = .ok (.getfield 93, 3) := by decide +kernel
theorem dX2_workBeat_156 : decode cX2_workBeat 156 = .ok (.iastore, 1) := by decide +kernel
theorem dX2_workBeat_157 : decode cX2_workBeat 157 = .ok (.aload_n 0, 1) := by decide +kernel
theorem dX2_workBeat_158 : decode cX2_workBeat 158 = .ok (.getfield 17, 3) := by decide +kernel
theorem dX2_workBeat_161 : decode cX2_workBeat 161 = .ok (.iconst 2, 1) := by decide +kernel
theorem dX2_workBeat_162 : decode cX2_workBeat 162 = .ok (.dup2, 1) := by decide +kernel
theorem dX2_workBeat_163 : decode cX2_workBeat 163 = .ok (.iaload, 1) := by decide +kernel
theorem dX2_workBeat_164 : decode cX2_workBeat 164 = .ok (.iconst 1, 1) := by decide +kernel
theorem dX2_workBeat_165 : decode cX2_workBeat 165 = .ok (.iadd, 1) := by decide +kernel
theorem dX2_workBeat_166 : decode cX2_workBeat 166 = .ok (.iastore, 1) := by decide +kernel
theorem dX2_workBeat_167 : decode cX2_workBeat 167 = .ok (.aload_n 0, 1) := by decide +kernel
theorem dX2_workBeat_168 : decode cX2_workBeat 168 = .ok (.getfield 17, 3) := by decide +kernel
theorem dX2_workBeat_171 : decode cX2_workBeat 171 = .ok (.iconst 3, 1) := by decide +kernel
theorem dX2_workBeat_172 : decode cX2_workBeat 172 = .ok (.aload_n 1, 1) := by decide +kernel
theorem dX2_workBeat_173 : decode cX2_workBeat 173 = .ok (.aload_n 1, 1) := by decide +kernel
theorem dX2_workBeat_174 : decode cX2_workBeat 174 = .ok (.getfield 197, 3) := by decide +kernel
theorem dX2_workBeat_177 : decode cX2_workBeat 177 = .ok (.invokevirtual 157, 3) := by decide +kernel
theorem dX2_workBeat_180 : decode cX2_workBeat 180 = .ok (.iastore, 1) := by decide +kernel
theorem dX2_workBeat_181 : decode cX2_workBeat 181 = .ok (.aload_n 0, 1) := by decide +kernel
theorem dX2_workBeat_182 : decode cX2_workBeat 182 = .ok (.aload_n 0, 1) := by decide +kernel
theorem dX2_workBeat_183 : decode cX2_workBeat 183 = .ok (.getfield 17, 3) := by decide +kernel
theorem dX2_workBeat_186 : decode cX2_workBeat 186 = .ok (.iconst 3, 1) := by decide +kernel
theorem dX2_workBeat_187 : decode cX2_workBeat 187 = .ok (.iaload, 1) := by decide +kernel
theorem dX2_workBeat_188 : decode cX2_workBeat 188 = .ok (.ifCond .eq 7, 3) := by decide +kernel
theorem dX2_workBeat_191 : decode cX2_workBeat 191 = .ok (.iconst 1, 1) := by decide +kernel
theorem dX2_workBeat_192 : decode cX2_workBeat 192 = .ok (.goto 4, 3) := by decide +kernel
theorem dX2_workBeat_195 : decode cX2_workBeat 195 = .ok (.iconst 0, 1) := by decide +kernel
theorem dX2_workBeat_196 : decode cX2_workBeat 196 = .ok (.putfield 28, 3) := by decide +kernel
theorem dX2_workBeat_199 : decode cX2_workBeat 199 = .ok (.aload_n 0, 1) := by decide +kernel
theorem dX2_workBeat_200 : decode cX2_workBeat 200 = .ok (.getfield 13, 3) := by decide +kernel
theorem dX2_workBeat_203 : decode cX2_workBeat 203 = .ok (.astore_n 2, 1) := by decide +kernel
theorem dX2_workBeat_204 : decode cX2_workBeat 204 = .ok (.aload_n 0, 1) := by decide +kernel
theorem dX2_workBeat_205 : decode cX2_workBeat 205 = .ok (.aload_n 0, 1) := by decide +kernel
theorem dX2_workBeat_206 : decode cX2_workBeat 206 = .ok (.getfield 17, 3) := by decide +kernel
theorem dX2_workBeat_209 : decode cX2_workBeat 209 = .ok (.putfield 13, 3) := by decide +kernel
theorem dX2_workBeat_212 : decode cX2_workBeat 212 = .ok (.aload_n 0, 1) := by decide +kernel
theorem dX2_workBeat_213 : decode cX2_workBeat 213 = .ok (.aload_n 2, 1) := by decide +kernel
theorem dX2_workBeat_214 : decode cX2_workBeat 214 = .ok (.putfield 17, 3) := by decide +kernel
theorem dX2_workBeat_217 : decode cX2_workBeat 217 = .ok (.return_, 1) := by decide +kernel
theorem dX2_takeGivenNumbers_0 : decode cX2_takeGivenNumbers 0 = .ok (.iconst 0, 1) := by decide +kernel
theorem dX2_takeGivenNumbers_1 : decode cX2_takeGivenNumbers 1 = .ok (.istore_n 1, 1) := by decide +kernel
theorem dX2_takeGivenNumbers_2 : decode cX2_takeGivenNumbers 2 = .ok (.iload_n 1, 1) := by decide +kernel
theorem dX2_takeGivenNumbers_3 : decode cX2_takeGivenNumbers 3 = .ok (.aload_n 0, 1) := by decide +kernel
theorem dX2_takeGivenNumbers_4 : decode cX2_takeGivenNumbers 4 = .ok (.getfield 35, 3) := by decide +kernel
theorem dX2_takeGivenNumbers_7 : decode cX2_takeGivenNumbers 7 = .ok (.getfield 99, 3) := by decide +kernel
theorem dX2_takeGivenNumbers_10 : decode cX2_takeGivenNumbers 10 = .ok (.if_icmp .ge 56, 3) := by decide +kernel
theorem dX2_takeGivenNumbers_13 : decode cX2_takeGivenNumbers 13 = .ok (.aload_n 0, 1) := by decide +kernel
theorem dX2_takeGivenNumbers_14 : decode cX2_takeGivenNumbers 14 = .ok (.getfield 35, 3) := by decide +kernel
theorem dX2_takeGivenNumbers_17 : decode cX2_takeGivenNumbers 17 = .ok (.getfield 102, 3) := by decide +kernel
theorem dX2_takeGivenNumbers_20 : decode cX2_takeGivenNumbers 20 = .ok (.iload_n 1, 1) := by decide +kernel
theorem dX2_takeGivenNumbers_21 : decode cX2_takeGivenNumbers 21 = .ok (.iaload, 1) := by decide +kernel
theorem dX2_takeGivenNumbers_22 : decode cX2_takeGivenNumbers 22 = .ok (.istore_n 2, 1) := by decide +kernel
theorem dX2_takeGivenNumbers_23 : decode cX2_takeGivenNumbers 23 = .ok (.aload_n 0, 1) := by decide +kernel
theorem dX2_takeGivenNumbers_24 : decode cX2_takeGivenNumbers 24 = .ok (.getfield 61, 3) := by decide +kernel
theorem dX2_takeGivenNumbers_27 : decode cX2_takeGivenNumbers 27 = .ok (.iload_n 1, 1) := by decide +kernel
theorem dX2_takeGivenNumbers_28 : decode cX2_takeGivenNumbers 28 = .ok (.iushr, 1) := by decide +kernel
theorem dX2_takeGivenNumbers_29 : decode cX2_takeGivenNumbers 29 = .ok (.iconst 1, 1) := by decide +kernel
theorem dX2_takeGivenNumbers_30 : decode cX2_takeGivenNumbers 30 = .ok (.iand, 1) := by decide +kernel
theorem dX2_takeGivenNumbers_31 : decode cX2_takeGivenNumbers 31 = .ok (.ifCond .eq 29, 3) := by decide +kernel
theorem dX2_takeGivenNumbers_34 : decode cX2_takeGivenNumbers 34 = .ok (.aload_n 0, 1) := by decide +kernel
theorem dX2_takeGivenNumbers_35 : decode cX2_takeGivenNumbers 35 = .ok (.getfield 35, 3) := by decide +kernel
theorem dX2_takeGivenNumbers_38 : decode cX2_takeGivenNumbers 38 = .ok (.getfield 200, 3) := by decide +kernel
theorem dX2_takeGivenNumbers_41 : decode cX2_takeGivenNumbers 41 = .ok (.iload_n 2, 1) := by decide +kernel
theorem dX2_takeGivenNumbers_42 : decode cX2_takeGivenNumbers 42 = .ok (.iaload, 1) := by decide +kernel
theorem dX2_takeGivenNumbers_43 : decode cX2_takeGivenNumbers 43 = .ok (.ifCond .eq 17, 3) := by decide +kernel
theorem dX2_takeGivenNumbers_46 : decode cX2_takeGivenNumbers 46 = .ok (.aload_n 0, 1) := by decide +kernel
theorem dX2_takeGivenNumbers_47 : decode cX2_takeGivenNumbers 47 = .ok (.getfield 17, 3) := by decide +kernel
theorem dX2_takeGivenNumbers_50 : decode cX2_takeGivenNumbers 50 = .ok (.iconst 4, 1) := by decide +kernel
theorem dX2_takeGivenNumbers_51 : decode cX2_takeGivenNumbers 51 = .ok (.iload_n 2, 1) := by decide +kernel
theorem dX2_takeGivenNumbers_52 : decode cX2_takeGivenNumbers 52 = .ok (.iadd, 1) := by decide +kernel
theorem dX2_takeGivenNumbers_53 : decode cX2_takeGivenNumbers 53 = .ok (.aload_n 0, 1) := by decide +kernel
theorem dX2_takeGivenNumbers_54 : decode cX2_takeGivenNumbers 54 = .ok (.getfield 25, 3) := by decide +kernel
theorem dX2_takeGivenNumbers_57 : decode cX2_takeGivenNumbers 57 = .ok (.iload_n 1, 1) := by decide +kernel
theorem dX2_takeGivenNumbers_58 : decode cX2_takeGivenNumbers 58 = .ok (.iaload, 1) := by decide +kernel
theorem dX2_takeGivenNumbers_59 : decode cX2_takeGivenNumbers 59 = .ok (.iastore, 1) := by decide +kernel
theorem dX2_takeGivenNumbers_60 : decode cX2_takeGivenNumbers 60 = .ok (.iinc 1 1, 3) := by decide +kernel
theorem dX2_takeGivenNumbers_63 : decode cX2_takeGivenNumbers 63 = .ok (.goto (-61), 3) := by decide +kernel
theorem dX2_takeGivenNumbers_66 : decode cX2_takeGivenNumbers 66 = .ok (.return_, 1) := by decide +kernel
theorem dX2_workPart_0 : decode cX2_workPart 0 = .ok (.aload_n 1, 1) := by decide +kernel
theorem dX2_workPart_1 : decode cX2_workPart 1 = .ok (.getfield 115, 3) := by decide +kernel
theorem dX2_workPart_4 : decode cX2_workPart 4 = .ok (.iconst 3, 1) := by decide +kernel
theorem dX2_workPart_5 : decode cX2_workPart 5 = .ok (.if_icmp .ne 24, 3) := by decide +kernel
theorem dX2_workPart_8 : decode cX2_workPart 8 = .ok (.aload_n 0, 1) := by decide +kernel
theorem dX2_workPart_9 : decode cX2_workPart 9 = .ok (.aload_n 1, 1) := by decide +kernel
theorem dX2_workPart_10 : decode cX2_workPart 10 = .ok (.invokevirtual 121, 3) := by decide +kernel
theorem dX2_workPart_13 : decode cX2_workPart 13 = .ok (.pop, 1) := by decide +kernel
theorem dX2_workPart_14 : decode cX2_workPart 14 = .ok (.aload_n 0, 1) := by decide +kernel
theorem dX2_workPart_15 : decode cX2_workPart 15 = .ok (.aload_n 0, 1) := by decide +kernel
theorem dX2_workPart_16 : decode cX2_workPart 16 = .ok (.getfield 35, 3) := by decide +kernel
theorem dX2_workPart_19 : decode cX2_workPart 19 = .ok (.getfield 128, 3) := by decide +kernel
theorem dX2_workPart_22 : decode cX2_workPart 22 = .ok (.getfield 141, 3) := by decide +kernel
theorem dX2_workPart_25 : decode cX2_workPart 25 = .ok (.putfield 96, 3) := by decide +kernel
theorem dX2_workPart_28 : decode cX2_workPart 28 = .ok (.return_, 1) := by decide +kernel
theorem dX2_workPart_29 : decode cX2_workPart 29 = .ok (.aload_n 0, 1) := by decide +kernel
theorem dX2_workPart_30 : decode cX2_workPart 30 = .ok (.getfield 35, 3) := by decide +kernel
theorem dX2_workPart_33 : decode cX2_workPart 33 = .ok (.getfield 128, 3) := by decide +kernel
theorem dX2_workPart_36 : decode cX2_workPart 36 = .ok (.aload_n 1, 1) := by decide +kernel
theorem dX2_workPart_37 : decode cX2_workPart 37 = .ok (.getfield 132, 3) := by decide +kernel
theorem dX2_workPart_40 : decode cX2_workPart 40 = .ok (.aload_n 0, 1) := by decide +kernel
theorem dX2_workPart_41 : decode cX2_workPart 41 = .ok (.getfield 17, 3) := by decide +kernel
theorem dX2_workPart_44 : decode cX2_workPart 44 = .ok (.invokevirtual 135, 3) := by decide +kernel
theorem dX2_workPart_47 : decode cX2_workPart 47 = .ok (.istore_n 2, 1) := by decide +kernel
theorem dX2_workPart_48 : decode cX2_workPart 48 = .ok (.aload_n 0, 1) := by decide +kernel
theorem dX2_workPart_49 : decode cX2_workPart 49 = .ok (.aload_n 0, 1) := by decide +kernel
theorem dX2_workPart_50 : decode cX2_workPart 50 = .ok (.getfield 35, 3) := by decide +kernel
theorem dX2_workPart_53 : decode cX2_workPart 53 = .ok (.getfield 128, 3) := by decide +kernel
theorem dX2_workPart_56 : decode cX2_workPart 56 = .ok (.getfield 141, 3) := by decide +kernel
theorem dX2_workPart_59 : decode cX2_workPart 59 = .ok (.putfield 96, 3) := by decide +kernel
theorem dX2_workPart_62 : decode cX2_workPart 62 = .ok (.aload_n 0, 1) := by decide +kernel
theorem dX2_workPart_63 : decode cX2_workPart 63 = .ok (.getfield 96, 3) := by decide +kernel
theorem dX2_workPart_66 : decode cX2_workPart 66 = .ok (.ifCond .eq 4, 3) := by decide +kernel
theorem dX2_workPart_69 : decode cX2_workPart 69 = .ok (.return_, 1) := by decide +kernel
theorem dX2_workPart_70 : decode cX2_workPart 70 = .ok (.aload_n 1, 1) := by decide +kernel
theorem dX2_workPart_71 : decode cX2_workPart 71 = .ok (.getfield 115, 3) := by decide +kernel
theorem dX2_workPart_74 : decode cX2_workPart 74 = .ok (.iconst 2, 1) := by decide +kernel
theorem dX2_workPart_75 : decode cX2_workPart 75 = .ok (.if_icmp .ne 19, 3) := by decide +kernel
theorem dX2_workPart_78 : decode cX2_workPart 78 = .ok (.aload_n 0, 1) := by decide +kernel
theorem dX2_workPart_79 : decode cX2_workPart 79 = .ok (.getfield 17, 3) := by decide +kernel
theorem dX2_workPart_82 : decode cX2_workPart 82 = .ok (.bipush 20, 2) := by decide +kernel
theorem dX2_workPart_84 : decode cX2_workPart 84 = .ok (.aload_n 1, 1) := by decide +kernel
theorem dX2_workPart_85 : decode cX2_workPart 85 = .ok (.getfield 118, 3) := by decide +kernel
theorem dX2_workPart_88 : decode cX2_workPart 88 = .ok (.iadd, 1) := by decide +kernel
theorem dX2_workPart_89 : decode cX2_workPart 89 = .ok (.iload_n 2, 1) := by decide +kernel
theorem dX2_workPart_90 : decode cX2_workPart 90 = .ok (.iastore, 1) := by decide +kernel
theorem dX2_workPart_91 : decode cX2_workPart 91 = .ok (.goto 12, 3) := by decide +kernel
theorem dX2_workPart_94 : decode cX2_workPart 94 = .ok (.aload_n 0, 1) := by decide +kernel
theorem dX2_workPart_95 : decode cX2_workPart 95 = .ok (.aload_n 1, 1) := by decide +kernel
theorem dX2_workPart_96 : decode cX2_workPart 96 = .ok (.getfield 118, 3) := by decide +kernel
theorem dX2_workPart_99 : decode cX2_workPart 99 = .ok (.iload_n 2, 1) := by decide +kernel
theorem dX2_workPart_100 : decode cX2_workPart 100 = .ok (.invokevirtual 203, 3) := by decide +kernel
theorem dX2_workPart_103 : decode cX2_workPart 103 = .ok (.return_, 1) := by decide +kernel
theorem dX2_emitNumber_0 : decode cX2_emitNumber 0 = .ok (.iconst 4, 1) := by decide +kernel
theorem dX2_emitNumber_1 : decode cX2_emitNumber 1 = .ok (.iload_n 1, 1) := by decide +kernel
theorem dX2_emitNumber_2 : decode cX2_emitNumber 2 = .ok (.iadd, 1) := by decide +kernel
theorem dX2_emitNumber_3 : decode cX2_emitNumber 3 = .ok (.istore_n 3, 1) := by decide +kernel
theorem dX2_emitNumber_4 : decode cX2_emitNumber 4 = .ok (.iload_n 2, 1) := by decide +kernel
theorem dX2_emitNumber_5 : decode cX2_emitNumber 5 = .ok (.i2l, 1) := by decide +kernel
theorem dX2_emitNumber_6 : decode cX2_emitNumber 6 = .ok (.lstore 4, 2) := by decide +kernel
theorem dX2_emitNumber_8 : decode cX2_emitNumber 8 = .ok (.aload_n 0, 1) := by decide +kernel
theorem dX2_emitNumber_9 : decode cX2_emitNumber 9 = .ok (.getfield 179, 3) := by decide +kernel
theorem dX2_emitNumber_12 : decode cX2_emitNumber 12 = .ok (.iload_n 1, 1) := by decide +kernel
theorem dX2_emitNumber_13 : decode cX2_emitNumber 13 = .ok (.iushr, 1) := by decide +kernel
theorem dX2_emitNumber_14 : decode cX2_emitNumber 14 = .ok (.iconst 1, 1) := by decide +kernel
theorem dX2_emitNumber_15 : decode cX2_emitNumber 15 = .ok (.iand, 1) := by decide +kernel
theorem dX2_emitNumber_16 : decode cX2_emitNumber 16 = .ok (.ifCond .eq 63, 3) := by decide +kernel
theorem dX2_emitNumber_19 : decode cX2_emitNumber 19 = .ok (.aload_n 0, 1) := by decide +kernel
theorem dX2_emitNumber_20 : decode cX2_emitNumber 20 = .ok (.getfield 35, 3) := by decide +kernel
theorem dX2_emitNumber_23 : decode cX2_emitNumber 23 = .ok (.getfield 200, 3) := by decide +kernel
theorem dX2_emitNumber_26 : decode cX2_emitNumber 26 = .ok (.iload_n 1, 1) := by decide +kernel
theorem dX2_emitNumber_27 : decode cX2_emitNumber 27 = .ok (.iaload, 1) := by decide +kernel
theorem dX2_emitNumber_28 : decode cX2_emitNumber 28 = .ok (.bipush 33, 2) := by decide +kernel
theorem dX2_emitNumber_30 : decode cX2_emitNumber 30 = .ok (.if_icmp .ne 9, 3) := by decide +kernel
theorem dX2_emitNumber_33 : decode cX2_emitNumber 33 = .ok (.aload_n 0, 1) := by decide +kernel
theorem dX2_emitNumber_34 : decode cX2_emitNumber 34 = .ok (.iconst 3, 1) := by decide +kernel
theorem dX2_emitNumber_35 : decode cX2_emitNumber 35 = .ok (.putfield 96, 3) := by decide +kernel
theorem dX2_emitNumber_38 : decode cX2_emitNumber 38 = .ok (.return_, 1) := by decide +kernel
theorem dX2_emitNumber_39 : decode cX2_emitNumber 39 = .ok (.aload_n 0, 1) := by decide +kernel
theorem dX2_emitNumber_40 : decode cX2_emitNumber 40 = .ok (.getfield 35, 3) := by decide +kernel
theorem dX2_emitNumber_43 : decode cX2_emitNumber 43 = .ok (.getfield 200, 3) := by decide +kernel
theorem dX2_emitNumber_46 : decode cX2_emitNumber 46 = .ok (.iload_n 1, 1) := by decide +kernel
theorem dX2_emitNumber_47 : decode cX2_emitNumber 47 = .ok (.iaload, 1) := by decide +kernel
theorem dX2_emitNumber_48 : decode cX2_emitNumber 48 = .ok (.bipush 34, 2) := by decide +kernel
theorem dX2_emitNumber_50 : decode cX2_emitNumber 50 = .ok (.if_icmp .ne 16, 3) := by decide +kernel
theorem dX2_emitNumber_53 : decode cX2_emitNumber 53 = .ok (.aload_n 0, 1) := by decide +kernel
theorem dX2_emitNumber_54 : decode cX2_emitNumber 54 = .ok (.getfield 17, 3) := by decide +kernel
theorem dX2_emitNumber_57 : decode cX2_emitNumber 57 = .ok (.iload_n 3, 1) := by decide +kernel
theorem dX2_emitNumber_58 : decode cX2_emitNumber 58 = .ok (.iaload, 1) := by decide +kernel
theorem dX2_emitNumber_59 : decode cX2_emitNumber 59 = .ok (.i2l, 1) := by decide +kernel
theorem dX2_emitNumber_60 : decode cX2_emitNumber 60 = .ok (.iload_n 2, 1) := by decide +kernel
theorem dX2_emitNumber_61 : decode cX2_emitNumber 61 = .ok (.i2l, 1) := by decide +kernel
theorem dX2_emitNumber_62 : decode cX2_emitNumber 62 = .ok (.ladd, 1) := by decide +kernel
theorem dX2_emitNumber_63 : decode cX2_emitNumber 63 = .ok (.goto 14, 3) := by decide +kernel
theorem dX2_emitNumber_66 : decode cX2_emitNumber 66 = .ok (.aload_n 0, 1) := by decide +kernel
theorem dX2_emitNumber_67 : decode cX2_emitNumber 67 = .ok (.getfield 17, 3) := by decide +kernel
theorem dX2_emitNumber_70 : decode cX2_emitNumber 70 = .ok (.iload_n 3, 1) := by decide +kernel
theorem dX2_emitNumber_71 : decode cX2_emitNumber 71 = .ok (.iaload, 1) := by decide +kernel
theorem dX2_emitNumber_72 : decode cX2_emitNumber 72 = .ok (.iload_n 2, 1) := by decide +kernel
theorem dX2_emitNumber_73 : decode cX2_emitNumber 73 = .ok (.invokestatic 208, 3) := by decide +kernel
theorem dX2_emitNumber_76 : decode cX2_emitNumber 76 = .ok (.i2l, 1) := by decide +kernel
theorem dX2_emitNumber_77 : decode cX2_emitNumber 77 = .ok (.lstore 4, 2) := by decide +kernel
theorem dX2_emitNumber_79 : decode cX2_emitNumber 79 = .ok (.lload 4, 2) := by decide +kernel
theorem dX2_emitNumber_81 : decode cX2_emitNumber 81 = .ok (.invokestatic 213, 3) := by decide +kernel
theorem dX2_emitNumber_84 : decode cX2_emitNumber 84 = .ok (.ifCond .ne 9, 3) := by decide +kernel
theorem dX2_emitNumber_87 : decode cX2_emitNumber 87 = .ok (.aload_n 0, 1) := by decide +kernel
theorem dX2_emitNumber_88 : decode cX2_emitNumber 88 = .ok (.iconst 2, 1) := by decide +kernel
theorem dX2_emitNumber_89 : decode cX2_emitNumber 89 = .ok (.putfield 96, 3) := by decide +kernel
theorem dX2_emitNumber_92 : decode cX2_emitNumber 92 = .ok (.return_, 1) := by decide +kernel
theorem dX2_emitNumber_93 : decode cX2_emitNumber 93 = .ok (.aload_n 0, 1) := by decide +kernel
theorem dX2_emitNumber_94 : decode cX2_emitNumber 94 = .ok (.dup, 1) := by decide +kernel
theorem dX2_emitNumber_95 : decode cX2_emitNumber 95 = .ok (.getfield 179, 3) := by decide +kernel
theorem dX2_emitNumber_98 : decode cX2_emitNumber 98 = .ok (.iconst 1, 1) := by decide +kernel
theorem dX2_emitNumber_99 : decode cX2_emitNumber 99 = .ok (.iload_n 1, 1) := by decide +kernel
theorem dX2_emitNumber_100 : decode cX2_emitNumber 100 = .ok (.ishl, 1) := by decide +kernel
theorem dX2_emitNumber_101 : decode cX2_emitNumber 101 = .ok (.ior, 1) := by decide +kernel
theorem dX2_emitNumber_102 : decode cX2_emitNumber 102 = .ok (.putfield 179, 3) := by decide +kernel
theorem dX2_emitNumber_105 : decode cX2_emitNumber 105 = .ok (.aload_n 0, 1) := by decide +kernel
theorem dX2_emitNumber_106 : decode cX2_emitNumber 106 = .ok (.getfield 17, 3) := by decide +kernel
theorem dX2_emitNumber_109 : decode cX2_emitNumber 109 = .ok (.iload_n 3, 1) := by decide +kernel
theorem dX2_emitNumber_110 : decode cX2_emitNumber 110 = .ok (.lload 4, 2) := by decide +kernel
theorem dX2_emitNumber_112 : decode cX2_emitNumber 112 = .ok (.l2i, 1) := by decide +kernel
theorem dX2_emitNumber_113 : decode cX2_emitNumber 113 = .ok (.iastore, 1) := by decide +kernel
theorem dX2_emitNumber_114 : decode cX2_emitNumber 114 = .ok (.return_, 1) := by decide +kernel
theorem dX2_store_0 : decode cX2_store 0 = .ok (.aload_n 0, 1) := by decide +kernel
theorem dX2_store_1 : decode cX2_store 1 = .ok (.getfield 217, 3) := by decide +kernel
theorem dX2_store_4 : decode cX2_store 4 = .ok (.iconst 3, 1) := by decide +kernel
theorem dX2_store_5 : decode cX2_store 5 = .ok (.if_icmp .ge 33, 3) := by decide +kernel
theorem dX2_store_8 : decode cX2_store 8 = .ok (.aload_n 0, 1) := by decide +kernel
theorem dX2_store_9 : decode cX2_store 9 = .ok (.getfield 13, 3) := by decide +kernel
theorem dX2_store_12 : decode cX2_store 12 = .ok (.iconst 0, 1) := by decide +kernel
theorem dX2_store_13 : decode cX2_store 13 = .ok (.aload_n 0, 1) := by decide +kernel
theorem dX2_store_14 : decode cX2_store 14 = .ok (.getfield 22, 3) := by decide +kernel
theorem dX2_store_17 : decode cX2_store 17 = .ok (.aload_n 0, 1) := by decide +kernel
theorem dX2_store_18 : decode cX2_store 18 = .ok (.getfield 217, 3) := by decide +kernel
theorem dX2_store_21 : decode cX2_store 21 = .ok (.aaload, 1) := by decide +kernel
theorem dX2_store_22 : decode cX2_store 22 = .ok (.iconst 0, 1) := by decide +kernel
theorem dX2_store_23 : decode cX2_store 23 = .ok (.bipush 26, 2) := by decide +kernel
theorem dX2_store_25 : decode cX2_store 25 = .ok (.invokestatic 170, 3) := by decide +kernel
theorem dX2_store_28 : decode cX2_store 28 = .ok (.aload_n 0, 1) := by decide +kernel
theorem dX2_store_29 : decode cX2_store 29 = .ok (.dup, 1) := by decide +kernel
theorem dX2_store_30 : decode cX2_store 30 = .ok (.getfield 217, 3) := by decide +kernel
theorem dX2_store_33 : decode cX2_store 33 = .ok (.iconst 1, 1) := by decide +kernel
theorem dX2_store_34 : decode cX2_store 34 = .ok (.iadd, 1) := by decide +kernel
theorem dX2_store_35 : decode cX2_store 35 = .ok (.putfield 217, 3) := by decide +kernel
theorem dX2_store_38 : decode cX2_store 38 = .ok (.return_, 1) := by decide +kernel
theorem dX2_restore_0 : decode cX2_restore 0 = .ok (.aload_n 0, 1) := by decide +kernel
theorem dX2_restore_1 : decode cX2_restore 1 = .ok (.getfield 217, 3) := by decide +kernel
theorem dX2_restore_4 : decode cX2_restore 4 = .ok (.ifCond .le 33, 3) := by decide +kernel
theorem dX2_restore_7 : decode cX2_restore 7 = .ok (.aload_n 0, 1) := by decide +kernel
theorem dX2_restore_8 : decode cX2_restore 8 = .ok (.dup, 1) := by decide +kernel
theorem dX2_restore_9 : decode cX2_restore 9 = .ok (.getfield 217, 3) := by decide +kernel
theorem dX2_restore_12 : decode cX2_restore 12 = .ok (.iconst 1, 1) := by decide +kernel
theorem dX2_restore_13 : decode cX2_restore 13 = .ok (.isub, 1) := by decide +kernel
theorem dX2_restore_14 : decode cX2_restore 14 = .ok (.putfield 217, 3) := by decide +kernel
theorem dX2_restore_17 : decode cX2_restore 17 = .ok (.aload_n 0, 1) := by decide +kernel
theorem dX2_restore_18 : decode cX2_restore 18 = .ok (.getfield 22, 3) := by decide +kernel
theorem dX2_restore_21 : decode cX2_restore 21 = .ok (.aload_n 0, 1) := by decide +kernel
theorem dX2_restore_22 : decode cX2_restore 22 = .ok (.getfield 217, 3) := by decide +kernel
theorem dX2_restore_25 : decode cX2_restore 25 = .ok (.aaload, 1) := by decide +kernel
theorem dX2_restore_26 : decode cX2_restore 26 = .ok (.iconst 0, 1) := by decide +kernel
theorem dX2_restore_27 : decode cX2_restore 27 = .ok (.aload_n 0, 1) := by decide +kernel
theorem dX2_restore_28 : decode cX2_restore 28 = .ok (.getfield 13, 3) := by decide +kernel
theorem dX2_restore_31 : decode cX2_restore 31 = .ok (.iconst 0, 1) := by decide +kernel
theorem dX2_restore_32 : decode cX2_restore 32 = .ok (.bipush 26, 2) := by decide +kernel
theorem dX2_restore_34 : decode cX2_restore 34 = .ok (.invokestatic 170, 3) := by decide +kernel
theorem dX2_restore_37 : decode cX2_restore 37 = .ok (.aload_n 0, 1) := by decide +kernel
theorem dX2_restore_38 : decode cX2_restore 38 = .ok (.invokevirtual 68, 3) := by decide +kernel
theorem dX2_restore_41 : decode cX2_restore 41 = .ok (.aload_n 0, 1) := by decide +kernel
theorem dX2_restore_42 : decode cX2_restore 42 = .ok (.iconst (-1), 1) := by decide +kernel
theorem dX2_restore_43 : decode cX2_restore 43 = .ok (.putfield 28, 3) := by decide +kernel
theorem dX2_restore_46 : decode cX2_restore 46 = .ok (.aload_n 0, 1) := by decide +kernel
theorem dX2_restore_47 : decode cX2_restore 47 = .ok (.iconst 0, 1) := by decide +kernel
theorem dX2_restore_48 : decode cX2_restore 48 = .ok (.putfield 61, 3) := by decide +kernel
theorem dX2_restore_51 : decode cX2_restore 51 = .ok (.aload_n 0, 1) := by decide +kernel
theorem dX2_restore_52 : decode cX2_restore 52 = .ok (.getfield 52, 3) := by decide +kernel
theorem dX2_restore_55 : decode cX2_restore 55 = .ok (.iconst 0, 1) := by decide +kernel
theorem dX2_restore_56 : decode cX2_restore 56 = .ok (.invokestatic 220, 3) := by decide +kernel
theorem dX2_restore_59 : decode cX2_restore 59 = .ok (.return_, 1) := by decide +kernel
theorem dX2_likeOther_0 : decode cX2_likeOther 0 = .ok (.iconst 0, 1) := by decide +kernel
theorem dX2_likeOther_1 : decode cX2_likeOther 1 = .ok (.istore_n 2, 1) := by decide +kernel
theorem dX2_likeOther_2 : decode cX2_likeOther 2 = .ok (.iload_n 2, 1) := by decide +kernel
theorem dX2_likeOther_3 : decode cX2_likeOther 3 = .ok (.bipush 26, 2) := by decide +kernel
theorem dX2_likeOther_5 : decode cX2_likeOther 5 = .ok (.if_icmp .ge 80, 3) := by decide +kernel
theorem dX2_likeOther_8 : decode cX2_likeOther 8 = .ok (.iload_n 2, 1) := by decide +kernel
theorem dX2_likeOther_9 : decode cX2_likeOther 9 = .ok (.iconst 2, 1) := by decide +kernel
theorem dX2_likeOther_10 : decode cX2_likeOther 10 = .ok (.if_icmp .ne 42, 3) := by decide +kernel
theorem dX2_likeOther_13 : decode cX2_likeOther 13 = .ok (.aload_n 0, 1) := by decide +kernel
theorem dX2_likeOther_14 : decode cX2_likeOther 14 = .ok (.getfield 13, 3) := by decide +kernel
theorem dX2_likeOther_17 : decode cX2_likeOther 17 = .ok (.iload_n 2, 1) := by decide +kernel
theorem dX2_likeOther_18 : decode cX2_likeOther 18 = .ok (.iaload, 1) := by decide +kernel
theorem dX2_likeOther_19 : decode cX2_likeOther 19 = .ok (.ifCond .ne 7, 3) := by decide +kernel
theorem dX2_likeOther_22 : decode cX2_likeOther 22 = .ok (.iconst 1, 1) := by decide +kernel
theorem dX2_likeOther_23 : decode cX2_likeOther 23 = .ok (.goto 4, 3) := by decide +kernel
theorem dX2_likeOther_26 : decode cX2_likeOther 26 = .ok (.iconst 0, 1) := by decide +kernel
theorem dX2_likeOther_27 : decode cX2_likeOther 27 = .ok (.aload_n 1, 1) := by decide +kernel
theorem dX2_likeOther_28 : decode cX2_likeOther 28 = .ok (.getfield 13, 3) := by decide +kernel
theorem dX2_likeOther_31 : decode cX2_likeOther 31 = .ok (.iload_n 2, 1) := by decide +kernel
theorem dX2_likeOther_32 : decode cX2_likeOther 32 = .ok (.iaload, 1) := by decide +kernel
theorem dX2_likeOther_33 : decode cX2_likeOther 33 = .ok (.ifCond .ne 7, 3) := by decide +kernel
theorem dX2_likeOther_36 : decode cX2_likeOther 36 = .ok (.iconst 1, 1) := by decide +kernel
theorem dX2_likeOther_37 : decode cX2_likeOther 37 = .ok (.goto 4, 3) := by decide +kernel
theorem dX2_likeOther_40 : decode cX2_likeOther 40 = .ok (.iconst 0, 1) := by decide +kernel
theorem dX2_likeOther_41 : decode cX2_likeOther 41 = .ok (.if_icmp .ne 7, 3) := by decide +kernel
theorem dX2_likeOther_44 : decode cX2_likeOther 44 = .ok (.iconst 1, 1) := by decide +kernel
theorem dX2_likeOther_45 : decode cX2_likeOther 45 = .ok (.goto 27, 3) := by decide +kernel
theorem dX2_likeOther_48 : decode cX2_likeOther 48 = .ok (.iconst 0, 1) := by decide +kernel
theorem dX2_likeOther_49 : decode cX2_likeOther 49 = .ok (.goto 23, 3) := by decide +kernel
theorem dX2_likeOther_52 : decode cX2_likeOther 52 = .ok (.aload_n 0, 1) := by decide +kernel
theorem dX2_likeOther_53 : decode cX2_likeOther 53 = .ok (.getfield 13, 3) := by decide +kernel
theorem dX2_likeOther_56 : decode cX2_likeOther 56 = .ok (.iload_n 2, 1) := by decide +kernel
theorem dX2_likeOther_57 : decode cX2_likeOther 57 = .ok (.iaload, 1) := by decide +kernel
theorem dX2_likeOther_58 : decode cX2_likeOther 58 = .ok (.aload_n 1, 1) := by decide +kernel
theorem dX2_likeOther_59 : decode cX2_likeOther 59 = .ok (.getfield 13, 3) := by decide +kernel
theorem dX2_likeOther_62 : decode cX2_likeOther 62 = .ok (.iload_n 2, 1) := by decide +kernel
theorem dX2_likeOther_63 : decode cX2_likeOther 63 = .ok (.iaload, 1) := by decide +kernel
theorem dX2_likeOther_64 : decode cX2_likeOther 64 = .ok (.if_icmp .ne 7, 3) := by decide +kernel
theorem dX2_likeOther_67 : decode cX2_likeOther 67 = .ok (.iconst 1, 1) := by decide +kernel
theorem dX2_likeOther_68 : decode cX2_likeOther 68 = .ok (.goto 4, 3) := by decide +kernel
theorem dX2_likeOther_71 : decode cX2_likeOther 71 = .ok (.iconst 0, 1) := by decide +kernel
theorem dX2_likeOther_72 : decode cX2_likeOther 72 = .ok (.istore_n 3, 1) := by decide +kernel
theorem dX2_likeOther_73 : decode cX2_likeOther 73 = .ok (.iload_n 3, 1) := by decide +kernel
theorem dX2_likeOther_74 : decode cX2_likeOther 74 = .ok (.ifCond .ne 5, 3) := by decide +kernel
theorem dX2_likeOther_77 : decode cX2_likeOther 77 = .ok (.iconst 0, 1) := by decide +kernel
theorem dX2_likeOther_78 : decode cX2_likeOther 78 = .ok (.ireturn, 1) := by decide +kernel
theorem dX2_likeOther_79 : decode cX2_likeOther 79 = .ok (.iinc 2 1, 3) := by decide +kernel
theorem dX2_likeOther_82 : decode cX2_likeOther 82 = .ok (.goto (-80), 3) := by decide +kernel
theorem dX2_likeOther_85 : decode cX2_likeOther 85 = .ok (.iconst 1, 1) := by decide +kernel
theorem dX2_likeOther_86 : decode cX2_likeOther 86 = .ok (.ireturn, 1) := by decide +kernel
theorem dX3_init_0 : decode cX3_init 0 = .ok (.aload_n 0, 1) := by decide +kernel
theorem dX3_init_1 : decode cX3_init 1 = .ok (.invokespecial 1, 3) := by decide +kernel
theorem dX3_init_4 : decode cX3_init 4 = .ok (.aload_n 0, 1) := by decide +kernel
theorem dX3_init_5 : decode cX3_init 5 = .ok (.iload_n 1, 1) := by decide +kernel
theorem dX3_init_6 : decode cX3_init 6 = .ok (.putfield 7, 3) := by decide +kernel
theorem dX3_init_9 : decode cX3_init 9 = .ok (.return_, 1) := by decide +kernel
theorem dX5_init_0 : decode cX5_init 0 = .ok (.aload_n 0, 1) := by decide +kernel
theorem dX5_init_1 : decode cX5_init 1 = .ok (.invokespecial 3, 3) := by decide +kernel
theorem dX5_init_4 : decode cX5_init 4 = .ok (.aload_n 0, 1) := by decide +kernel
theorem dX5_init_5 : decode cX5_init 5 = .ok (.aload_n 1, 1) := by decide +kernel
theorem dX5_init_6 : decode cX5_init 6 = .ok (.putfield 9, 3) := by decide +kernel
theorem dX5_init_9 : decode cX5_init 9 = .ok (.aload_n 1, 1) := by decide +kernel
theorem dX5_init_10 : decode cX5_init 10 = .ok (.getfield 15, 3) := by decide +kernel
theorem dX5_init_13 : decode cX5_init 13 = .ok (.aload_n 1, 1) := by decide +kernel
theorem dX5_init_14 : decode cX5_init 14 = .ok (.getfield 21, 3) := by decide +kernel
theorem dX5_init_17 : decode cX5_init 17 = .ok (.iadd, 1) := by decide +kernel
theorem dX5_init_18 : decode cX5_init 18 = .ok (.istore_n 2, 1) := by decide +kernel
theorem dX5_init_19 : decode cX5_init 19 = .ok (.aload_n 0, 1) := by decide +kernel
theorem dX5_init_20 : decode cX5_init 20 = .ok (.iload_n 2, 1) := by decide +kernel
theorem dX5_init_21 : decode cX5_init 21 = .ok (.iconst 5, 1) := by decide +kernel
theorem dX5_init_22 : decode cX5_init 22 = .ok (.if_icmp .le 7, 3) := by decide +kernel
theorem dX5_init_25 : decode cX5_init 25 = .ok (.iconst 1, 1) := by decide +kernel
theorem dX5_init_26 : decode cX5_init 26 = .ok (.goto 4, 3) := by decide +kernel
theorem dX5_init_29 : decode cX5_init 29 = .ok (.iconst 0, 1) := by decide +kernel
theorem dX5_init_30 : decode cX5_init 30 = .ok (.putfield 24, 3) := by decide +kernel
theorem dX5_init_33 : decode cX5_init 33 = .ok (.aload_n 0, 1) := by decide +kernel
theorem dX5_init_34 : decode cX5_init 34 = .ok (.aload_n 0, 1) := by decide +kernel
theorem dX5_init_35 : decode cX5_init 35 = .ok (.getfield 24, 3) := by decide +kernel
theorem dX5_init_38 : decode cX5_init 38 = .ok (.ifCond .eq 7, 3) := by decide +kernel
theorem dX5_init_41 : decode cX5_init 41 = .ok (.iconst 1, 1) := by decide +kernel
theorem dX5_init_42 : decode cX5_init 42 = .ok (.goto 6, 3) := by decide +kernel
theorem dX5_init_45 : decode cX5_init 45 = .ok (.iconst 1, 1) := by decide +kernel
theorem dX5_init_46 : decode cX5_init 46 = .ok (.iload_n 2, 1) := by decide +kernel
theorem dX5_init_47 : decode cX5_init 47 = .ok (.ishl, 1) := by decide +kernel
theorem dX5_init_48 : decode cX5_init 48 = .ok (.putfield 28, 3) := by decide +kernel
theorem dX5_init_51 : decode cX5_init 51 = .ok (.aload_n 0, 1) := by decide +kernel
theorem dX5_init_52 : decode cX5_init 52 = .ok (.getfield 24, 3) := by decide +kernel
theorem dX5_init_55 : decode cX5_init 55 = .ok (.ifCond .eq 7, 3) := by decide +kernel
theorem dX5_init_58 : decode cX5_init 58 = .ok (.iconst 0, 1) := by decide +kernel
theorem dX5_init_59 : decode cX5_init 59 = .ok (.goto 5, 3) := by decide +kernel
theorem dX5_init_62 : decode cX5_init 62 = .ok (.bipush 48, 2) := by decide +kernel
theorem dX5_init_64 : decode cX5_init 64 = .ok (.istore_n 3, 1) := by decide +kernel
theorem dX5_init_65 : decode cX5_init 65 = .ok (.aload_n 0, 1) := by decide +kernel
theorem dX5_init_66 : decode cX5_init 66 = .ok (.aload_n 1, 1) := by decide +kernel
theorem dX5_init_67 : decode cX5_init 67 = .ok (.getfield 31, 3) := by decide +kernel
theorem dX5_init_70 : decode cX5_init 70 = .ok (.invokevirtual 35, 3) := by decide +kernel
theorem dX5_init_73 : decode cX5_init 73 = .ok (.putfield 41, 3) := by decide +kernel
theorem dX5_init_76 : decode cX5_init 76 = .ok (.aload_n 0, 1) := by decide +kernel
theorem dX5_init_77 : decode cX5_init 77 = .ok (.iload_n 3, 1) := by decide +kernel
theorem dX5_init_78 : decode cX5_init 78 = .ok (.newarray .int, 2) := by decide +kernel
theorem dX5_init_80 : decode cX5_init 80 = .ok (.putfield 43, 3) := by decide +kernel
theorem dX5_init_83 : decode cX5_init 83 = .ok (.aload_n 0, 1) := by decide +kernel
theorem dX5_init_84 : decode cX5_init 84 = .ok (.iload_n 3, 1) := by decide +kernel
theorem dX5_init_85 : decode cX5_init 85 = .ok (.newarray .int, 2) := by decide +kernel
theorem dX5_init_87 : decode cX5_init 87 = .ok (.putfield 47, 3) := by decide +kernel
theorem dX5_init_90 : decode cX5_init 90 = .ok (.aload_n 0, 1) := by decide +kernel
theorem dX5_init_91 : decode cX5_init 91 = .ok (.iload_n 3, 1) := by decide +kernel
theorem dX5_init_92 : decode cX5_init 92 = .ok (.newarray .int, 2) := by decide +kernel
theorem dX5_init_94 : decode cX5_init 94 = .ok (.putfield 50, 3) := by decide +kernel
theorem dX5_init_97 : decode cX5_init 97 = .ok (.aload_n 0, 1) := by decide +kernel
theorem dX5_init_98 : decode cX5_init 98 = .ok (.iload_n 3, 1) := by decide +kernel
theorem dX5_init_99 : decode cX5_init 99 = .ok (.newarray .int, 2) := by decide +kernel
theorem dX5_init_101 : decode cX5_init 101 = .ok (.putfield 53, 3) := by decide +kernel
theorem dX5_init_104 : decode cX5_init 104 = .ok (.aload_n 0, 1) := by decide +kernel
theorem dX5_init_105 : decode cX5_init 105 = .ok (.iload_n 3, 1) := by decide +kernel
theorem dX5_init_106 : decode cX5_init 106 = .ok (.aload_n 0, 1) := by decide +kernel
theorem dX5_init_107 : decode cX5_init 107 = .ok (.getfield 28, 3) := by decide +kernel
theorem dX5_init_110 : decode cX5_init 110 = .ok (.imul, 1) := by decide +kernel
theorem dX5_init_111 : decode cX5_init 111 = .ok (.newarray .int, 2) := by decide +kernel
theorem dX5_init_113 : decode cX5_init 113 = .ok (.putfield 56, 3) := by decide +kernel
theorem dX5_init_116 : decode cX5_init 116 = .ok (.aload_n 0, 1) := by decide +kernel
theorem dX5_init_117 : decode cX5_init 117 = .ok (.iload_n 3, 1) := by decide +kernel
theorem dX5_init_118 : decode cX5_init 118 = .ok (.aload_n 0, 1) := by decide +kernel
theorem dX5_init_119 : decode cX5_init 119 = .ok (.getfield 28, 3) := by decide +kernel
theorem dX5_init_122 : decode cX5_init 122 = .ok (.imul, 1) := by decide +kernel
theorem dX5_init_123 : decode cX5_init 123 = .ok (.newarray .int, 2) := by decide +kernel
theorem dX5_init_125 : decode cX5_init 125 = .ok (.putfield 59, 3) := by decide +kernel
theorem dX5_init_128 : decode cX5_init 128 = .ok (.aload_n 0, 1) := by decide +kernel
theorem dX5_init_129 : decode cX5_init 129 = .ok (.iload_n 3, 1) := by decide +kernel
theorem dX5_init_130 : decode cX5_init 130 = .ok (.newarray .int, 2) := by decide +kernel
theorem dX5_init_132 : decode cX5_init 132 = .ok (.putfield 62, 3) := by decide +kernel
theorem dX5_init_135 : decode cX5_init 135 = .ok (.aload_n 0, 1) := by decide +kernel
theorem dX5_init_136 : decode cX5_init 136 = .ok (.iload_n 3, 1) := by decide +kernel
theorem dX5_init_137 : decode cX5_init 137 = .ok (.newarray .int, 2) := by decide +kernel
theorem dX5_init_139 : decode cX5_init 139 = .ok (.putfield 65, 3) := by decide +kernel
theorem dX5_init_142 : decode cX5_init 142 = .ok (.return_, 1) := by decide +kernel
theorem dX5_explore_0 : decode cX5_explore 0 = .ok (.aload_n 0, 1) := by decide +kernel
theorem dX5_explore_1 : decode cX5_explore 1 = .ok (.aload_n 0, 1) := by decide +kernel
theorem dX5_explore_2 : decode cX5_explore 2 = .ok (.getfield 24, 3) := by decide +kernel
theorem dX5_explore_5 : decode cX5_explore 5 = .ok (.ifCond .eq 7, 3) := by decide +kernel
theorem dX5_explore_8 : decode cX5_explore 8 = .ok (.iconst 0, 1) := by decide +kernel
theorem dX5_explore_9 : decode cX5_explore 9 = .ok (.goto 4, 3) := by decide +kernel
theorem dX5_explore_12 : decode cX5_explore 12 = .ok (.iconst 1, 1) := by decide +kernel
theorem dX5_explore_13 : decode cX5_explore 13 = .ok (.putfield 68, 3) := by decide +kernel
theorem dX5_explore_16 : decode cX5_explore 16 = .ok (.iconst 0, 1) := by decide +kernel
theorem dX5_explore_17 : decode cX5_explore 17 = .ok (.istore_n 1, 1) := by decide +kernel
theorem dX5_explore_18 : decode cX5_explore 18 = .ok (.iload_n 1, 1) := by decide +kernel
theorem dX5_explore_19 : decode cX5_explore 19 = .ok (.bipush 48, 2) := by decide +kernel
theorem dX5_explore_21 : decode cX5_explore 21 = .ok (.if_icmp .ge 29, 3) := by decide +kernel
theorem dX5_explore_24 : decode cX5_explore 24 = .ok (.iload_n 1, 1) := by decide +kernel
theorem dX5_explore_25 : decode cX5_explore 25 = .ok (.aload_n 0, 1) := by decide +kernel
theorem dX5_explore_26 : decode cX5_explore 26 = .ok (.getfield 68, 3) := by decide +kernel
theorem dX5_explore_29 : decode cX5_explore 29 = .ok (.if_icmp .ge 21, 3) := by decide +kernel
theorem dX5_explore_32 : decode cX5_explore 32 = .ok (.aload_n 0, 1) := by decide +kernel
theorem dX5_explore_33 : decode cX5_explore 33 = .ok (.getfield 24, 3) := by decide +kernel
theorem dX5_explore_36 : decode cX5_explore 36 = .ok (.ifCond .ne 14, 3) := by decide +kernel
theorem dX5_explore_39 : decode cX5_explore 39 = .ok (.aload_n 0, 1) := by decide +kernel
theorem dX5_explore_40 : decode cX5_explore 40 = .ok (.iload_n 1, 1) := by decide +kernel
theorem dX5_explore_41 : decode cX5_explore 41 = .ok (.invokevirtual 71, 3) := by decide +kernel
theorem dX5_explore_44 : decode cX5_explore 44 = .ok (.iinc 1 1, 3) := by decide +kernel
theorem dX5_explore_47 : decode cX5_explore 47 = .ok (.goto (-29), 3) := by decide +kernel
theorem dX5_explore_50 : decode cX5_explore 50 = .ok (.aload_n 0, 1) := by decide +kernel
theorem dX5_explore_51 : decode cX5_explore 51 = .ok (.getfield 24, 3) := by decide +kernel
theorem dX5_explore_54 : decode cX5_explore 54 = .ok (.ifCond .ne 7, 3) := by decide +kernel
theorem dX5_explore_57 : decode cX5_explore 57 = .ok (.aload_n 0, 1) := by decide +kernel
theorem dX5_explore_58 : decode cX5_explore 58 = .ok (.invokevirtual 75, 3) := by decide +kernel
theorem dX5_explore_61 : decode cX5_explore 61 = .ok (.return_, 1) := by decide +kernel
theorem dX5_workState_0 : decode cX5_workState 0 = .ok (.aload_n 0, 1) := by decide +kernel
theorem dX5_workState_1 : decode cX5_workState 1 = .ok (.getfield 9, 3) := by decide +kernel
theorem dX5_workState_4 : decode cX5_workState 4 = .ok (.getfield 31, 3) := by decide +kernel
theorem dX5_workState_7 : decode cX5_workState 7 = .ok (.astore_n 2, 1) := by decide +kernel
theorem dX5_workState_8 : decode cX5_workState 8 = .ok (.aload_n 2, 1) := by decide +kernel
theorem dX5_workState_9 : decode cX5_workState 9 = .ok (.aload_n 0, 1) := by decide +kernel
theorem dX5_workState_10 : decode cX5_workState 10 = .ok (.getfield 43, 3) := by decide +kernel
theorem dX5_workState_13 : decode cX5_workState 13 = .ok (.iload_n 1, 1) := by decide +kernel
theorem dX5_workState_14 : decode cX5_workState 14 = .ok (.iaload, 1) := by decide +kernel
theorem dX5_workState_15 : decode cX5_workState 15 = .ok (.aload_n 0, 1) := by decide +kernel
theorem dX5_workState_16 : decode cX5_workState 16 = .ok (.getfield 47, 3) := by decide +kernel
theorem dX5_workState_19 : decode cX5_workState 19 = .ok (.iload_n 1, 1) := by decide +kernel
theorem dX5_workState_20 : decode cX5_workState 20 = .ok (.iaload, 1) := by decide +kernel
theorem dX5_workState_21 : decode cX5_workState 21 = .ok (.iload_n 1, 1) := by decide +kernel
theorem dX5_workState_22 : decode cX5_workState 22 = .ok (.ifCond .ne 7, 3) := by decide +kernel
theorem dX5_workState_25 : decode cX5_workState 25 = .ok (.iconst 1, 1) := by decide +kernel
theorem dX5_workState_26 : decode cX5_workState 26 = .ok (.goto 4, 3) := by decide +kernel
theorem dX5_workState_29 : decode cX5_workState 29 = .ok (.iconst 0, 1) := by decide +kernel
theorem dX5_workState_30 : decode cX5_workState 30 = .ok (.invokevirtual 78, 3) := by decide +kernel
theorem dX5_workState_33 : decode cX5_workState 33 = .ok (.iconst 0, 1) := by decide +kernel
theorem dX5_workState_34 : decode cX5_workState 34 = .ok (.istore_n 3, 1) := by decide +kernel
theorem dX5_workState_35 : decode cX5_workState 35 = .ok (.iload_n 3, 1) := by decide +kernel
theorem dX5_workState_36 : decode cX5_workState 36 = .ok (.aload_n 0, 1) := by decide +kernel
theorem dX5_workState_37 : decode cX5_workState 37 = .ok (.getfield 9, 3) := by decide +kernel
theorem dX5_workState_40 : decode cX5_workState 40 = .ok (.getfield 15, 3) := by decide +kernel
theorem dX5_workState_43 : decode cX5_workState 43 = .ok (.if_icmp .ge 35, 3) := by decide +kernel
theorem dX5_workState_46 : decode cX5_workState 46 = .ok (.iload_n 3, 1) := by decide +kernel
theorem dX5_workState_47 : decode cX5_workState 47 = .ok (.getstatic 82, 3) := by decide +kernel
theorem dX5_workState_50 : decode cX5_workState 50 = .ok (.arraylength, 1) := by decide +kernel
theorem dX5_workState_51 : decode cX5_workState 51 = .ok (.if_icmp .ge 27, 3) := by decide +kernel
theorem dX5_workState_54 : decode cX5_workState 54 = .ok (.aload_n 2, 1) := by decide +kernel
theorem dX5_workState_55 : decode cX5_workState 55 = .ok (.aload_n 0, 1) := by decide +kernel
theorem dX5_workState_56 : decode cX5_workState 56 = .ok (.getfield 9, 3) := by decide +kernel
theorem dX5_workState_59 : decode cX5_workState 59 = .ok (.getfield 85, 3) := by decide +kernel
theorem dX5_workState_62 : decode cX5_workState 62 = .ok (.iload_n 3, 1) := by decide +kernel
theorem dX5_workState_63 : decode cX5_workState 63 = .ok (.iaload, 1) := by decide +kernel
theorem dX5_workState_64 : decode cX5_workState 64 = .ok (.getstatic 82, 3) := by decide +kernel
theorem dX5_workState_67 : decode cX5_workState 67 = .ok (.iload_n 3, 1) := by decide +kernel
theorem dX5_workState_68 : decode cX5_workState 68 = .ok (.iaload, 1) := by decide +kernel
theorem dX5_workState_69 : decode cX5_workState 69 = .ok (.invokevirtual 88, 3) := by decide +kernel
theorem dX5_workState_72 : decode cX5_workState 72 = .ok (.iinc 3 1, 3) := by decide +kernel
theorem dX5_workState_75 : decode cX5_workState 75 = .ok (.goto (-40), 3) := by decide +kernel
theorem dX5_workState_78 : decode cX5_workState 78 = .ok (.iconst 0, 1) := by decide +kernel
theorem dX5_workState_79 : decode cX5_workState 79 = .ok (.istore_n 3, 1) := by decide +kernel
theorem dX5_workState_80 : decode cX5_workState 80 = .ok (.iload_n 3, 1) := by decide +kernel
theorem dX5_workState_81 : decode cX5_workState 81 = .ok (.aload_n 0, 1) := by decide +kernel
theorem dX5_workState_82 : decode cX5_workState 82 = .ok (.getfield 9, 3) := by decide +kernel
theorem dX5_workState_85 : decode cX5_workState 85 = .ok (.getfield 21, 3) := by decide +kernel
theorem dX5_workState_88 : decode cX5_workState 88 = .ok (.if_icmp .ge 43, 3) := by decide +kernel
theorem dX5_workState_91 : decode cX5_workState 91 = .ok (.aload_n 0, 1) := by decide +kernel
theorem dX5_workState_92 : decode cX5_workState 92 = .ok (.getfield 9, 3) := by decide +kernel
theorem dX5_workState_95 : decode cX5_workState 95 = .ok (.getfield 15, 3) := by decide +kernel
theorem dX5_workState_98 : decode cX5_workState 98 = .ok (.iload_n 3, 1) := by decide +kernel
theorem dX5_workState_99 : decode cX5_workState 99 = .ok (.iadd, 1) := by decide +kernel
theorem dX5_workState_100 : decode cX5_workState 100 = .ok (.getstatic 82, 3) := by decide +kernel
theorem dX5_workState_103 : decode cX5_workState 103 = .ok (.arraylength, 1) := by decide +kernel
theorem dX5_workState_104 : decode cX5_workState 104 = .ok (.if_icmp .ge 27, 3) := by decide +kernel
theorem dX5_workState_107 : decode cX5_workState 107 = .ok (.aload_n 2, 1) := by decide +kernel
theorem dX5_workState_108 : decode cX5_workState 108 = .ok (.iload_n 3, 1) := by decide +kernel
theorem dX5_workState_109 : decode cX5_workState 109 = .ok (.getstatic 82, 3) := by decide +kernel
theorem dX5_workState_112 : decode cX5_workState 112 = .ok (.aload_n 0, 1) := by decide +kernel
theorem dX5_workState_113 : decode cX5_workState 113 = .ok (.getfield 9, 3) := by decide +kernel
theorem dX5_workState_116 : decode cX5_workState 116 = .ok (.getfield 15, 3) := by decide +kernel
theorem dX5_workState_119 : decode cX5_workState 119 = .ok (.iload_n 3, 1) := by decide +kernel
theorem dX5_workState_120 : decode cX5_workState 120 = .ok (.iadd, 1) := by decide +kernel
theorem dX5_workState_121 : decode cX5_workState 121 = .ok (.iaload, 1) := by decide +kernel
theorem dX5_workState_122 : decode cX5_workState 122 = .ok (.invokevirtual 92, 3) := by decide +kernel
theorem dX5_workState_125 : decode cX5_workState 125 = .ok (.iinc 3 1, 3) := by decide +kernel
theorem dX5_workState_128 : decode cX5_workState 128 = .ok (.goto (-48), 3) := by decide +kernel
theorem dX5_workState_131 : decode cX5_workState 131 = .ok (.aload_n 2, 1) := by decide +kernel
theorem dX5_workState_132 : decode cX5_workState 132 = .ok (.invokevirtual 95, 3) := by decide +kernel
theorem dX5_workState_135 : decode cX5_workState 135 = .ok (.aload_n 2, 1) := by decide +kernel
theorem dX5_workState_136 : decode cX5_workState 136 = .ok (.invokevirtual 98, 3) := by decide +kernel
theorem dX5_workState_139 : decode cX5_workState 139 = .ok (.istore_n 3, 1) := by decide +kernel
theorem dX5_workState_140 : decode cX5_workState 140 = .ok (.iconst 0, 1) := by decide +kernel
theorem dX5_workState_141 : decode cX5_workState 141 = .ok (.istore 4, 2) := by decide +kernel
theorem dX5_workState_143 : decode cX5_workState 143 = .ok (.iload 4, 2) := by decide +kernel
theorem dX5_workState_145 : decode cX5_workState 145 = .ok (.aload_n 0, 1) := by decide +kernel
theorem dX5_workState_146 : decode cX5_workState 146 = .ok (.getfield 28, 3) := by decide +kernel
theorem dX5_workState_149 : decode cX5_workState 149 = .ok (.if_icmp .ge 115, 3) := by decide +kernel
theorem dX5_workState_152 : decode cX5_workState 152 = .ok (.aload_n 0, 1) := by decide +kernel
theorem dX5_workState_153 : decode cX5_workState 153 = .ok (.getfield 24, 3) := by decide +kernel
theorem dX5_workState_156 : decode cX5_workState 156 = .ok (.ifCond .ne 108, 3) := by decide +kernel
theorem dX5_workState_159 : decode cX5_workState 159 = .ok (.iload_n 1, 1) := by decide +kernel
theorem dX5_workState_160 : decode cX5_workState 160 = .ok (.aload_n 0, 1) := by decide +kernel
theorem dX5_workState_161 : decode cX5_workState 161 = .ok (.getfield 28, 3) := by decide +kernel
theorem dX5_workState_164 : decode cX5_workState 164 = .ok (.imul, 1) := by decide +kernel
theorem dX5_workState_165 : decode cX5_workState 165 = .ok (.iload 4, 2) := by decide +kernel
theorem dX5_workState_167 : decode cX5_workState 167 = .ok (.iadd, 1) := by decide +kernel
theorem dX5_workState_168 : decode cX5_workState 168 = .ok (.istore 5, 2) := by decide +kernel
theorem dX5_workState_170 : decode cX5_workState 170 = .ok (.iload_n 3, 1) := by decide +kernel
theorem dX5_workState_171 : decode cX5_workState 171 = .ok (.iload 4, 2) := by decide +kernel
theorem dX5_workState_173 : decode cX5_workState 173 = .ok (.iushr, 1) := by decide +kernel
theorem dX5_workState_174 : decode cX5_workState 174 = .ok (.iconst 1, 1) := by decide +kernel
theorem dX5_workState_175 : decode cX5_workState 175 = .ok (.iand, 1) := by decide +kernel
theorem dX5_workState_176 : decode cX5_workState 176 = .ok (.ifCond .eq 15, 3) := by decide +kernel
theorem dX5_workState_179 : decode cX5_workState 179 = .ok (.aload_n 0, 1) := by decide +kernel
theorem dX5_workState_180 : decode cX5_workState 180 = .ok (.getfield 56, 3) := by decide +kernel
theorem dX5_workState_183 : decode cX5_workState 183 = .ok (.iload 5, 2) := by decide +kernel
theorem dX5_workState_185 : decode cX5_workState 185 = .ok (.bipush (-2), 2) := by decide +kernel
theorem dX5_workState_187 : decode cX5_workState 187 = .ok (.iastore, 1) := by decide +kernel
theorem dX5_workState_188 : decode cX5_workState 188 = .ok (.goto 70, 3) := by decide +kernel
theorem dX5_workState_191 : decode cX5_workState 191 = .ok (.aload_n 0, 1) := by decide +kernel
theorem dX5_workState_192 : decode cX5_workState 192 = .ok (.getfield 59, 3) := by decide +kernel
theorem dX5_workState_195 : decode cX5_workState 195 = .ok (.iload 5, 2) := by decide +kernel
theorem dX5_workState_197 : decode cX5_workState 197 = .ok (.aload_n 2, 1) := by decide +kernel
theorem dX5_workState_198 : decode cX5_workState 198 = .ok (.iload 4, 2) := by decide +kernel
theorem dX5_workState_200 : decode cX5_workState 200 = .ok (.invokevirtual 101, 3) := by decide +kernel
theorem dX5_workState_203 : decode cX5_workState 203 = .ok (.iastore, 1) := by decide +kernel
theorem dX5_workState_204 : decode cX5_workState 204 = .ok (.aload_n 2, 1) := by decide +kernel
theorem dX5_workState_205 : decode cX5_workState 205 = .ok (.aload_n 2, 1) := by decide +kernel
theorem dX5_workState_206 : decode cX5_workState 206 = .ok (.getfield 105, 3) := by decide +kernel
theorem dX5_workState_209 : decode cX5_workState 209 = .ok (.iload 4, 2) := by decide +kernel
theorem dX5_workState_211 : decode cX5_workState 211 = .ok (.invokevirtual 108, 3) := by decide +kernel
theorem dX5_workState_214 : decode cX5_workState 214 = .ok (.istore 6, 2) := by decide +kernel
theorem dX5_workState_216 : decode cX5_workState 216 = .ok (.aload_n 0, 1) := by decide +kernel
theorem dX5_workState_217 : decode cX5_workState 217 = .ok (.getfield 56, 3) := by decide +kernel
theorem dX5_workState_220 : decode cX5_workState 220 = .ok (.iload 5, 2) := by decide +kernel
theorem dX5_workState_222 : decode cX5_workState 222 = .ok (.iload 6, 2) := by decide +kernel
theorem dX5_workState_224 : decode cX5_workState 224 = .ok (.ifCond .eq 7, 3) := by decide +kernel
theorem dX5_workState_227 : decode cX5_workState 227 = .ok (.iconst (-1), 1) := by decide +kernel
theorem dX5_workState_228 : decode cX5_workState 228 = .ok (.goto 29, 3) := by decide +kernel
theorem dX5_workState_231 : decode cX5_workState 231 = .ok (.aload_n 0, 1) := by decide +kernel
theorem dX5_workState_232 : decode cX5_workState 232 = .ok (.iload_n 1, 1) := by decide +kernel
theorem dX5_workState_233 : decode cX5_workState 233 = .ok (.iload 4, 2) := by decide +kernel
theorem dX5_workState_235 : decode cX5_workState 235 = .ok (.aload_n 2, 1) := by decide +kernel
theorem dX5_workState_236 : decode cX5_workState 236 = .ok (.iload 4, 2) := by decide +kernel
theorem dX5_workState_238 : decode cX5_workState 238 = .ok (.aload_n 0, 1) := by decide +kernel
theorem dX5_workState_239 : decode cX5_workState 239 = .ok (.getfield 43, 3) := by decide +kernel
theorem dX5_workState_242 : decode cX5_workState 242 = .ok (.iload_n 1, 1) := by decide +kernel
theorem dX5_workState_243 : decode cX5_workState 243 = .ok (.iaload, 1) := by decide +kernel
theorem dX5_workState_244 : decode cX5_workState 244 = .ok (.invokevirtual 112, 3) := by decide +kernel
theorem dX5_workState_247 : decode cX5_workState 247 = .ok (.aload_n 0, 1) := by decide +kernel
theorem dX5_workState_248 : decode cX5_workState 248 = .ok (.getfield 59, 3) := by decide +kernel
theorem dX5_workState_251 : decode cX5_workState 251 = .ok (.iload 5, 2) := by decide +kernel
theorem dX5_workState_253 : decode cX5_workState 253 = .ok (.iaload, 1) := by decide +kernel
theorem dX5_workState_254 : decode cX5_workState 254 = .ok (.invokevirtual 116, 3) := by decide +kernel
theorem dX5_workState_257 : decode cX5_workState 257 = .ok (.iastore, 1) := by decide +kernel
theorem dX5_workState_258 : decode cX5_workState 258 = .ok (.iinc 4 1, 3) := by decide +kernel
theorem dX5_workState_261 : decode cX5_workState 261 = .ok (.goto (-118), 3) := by decide +kernel
theorem dX5_workState_264 : decode cX5_workState 264 = .ok (.return_, 1) := by decide +kernel
theorem dX5_reach_0 : decode cX5_reach 0 = .ok (.iload 4, 2) := by decide +kernel
theorem dX5_reach_2 : decode cX5_reach 2 = .ok (.aload_n 0, 1) := by decide +kernel
theorem dX5_reach_3 : decode cX5_reach 3 = .ok (.getfield 41, 3) := by decide +kernel
theorem dX5_reach_6 : decode cX5_reach 6 = .ok (.iand, 1) := by decide +kernel
theorem dX5_reach_7 : decode cX5_reach 7 = .ok (.istore 5, 2) := by decide +kernel
theorem dX5_reach_9 : decode cX5_reach 9 = .ok (.iconst 1, 1) := by decide +kernel
theorem dX5_reach_10 : decode cX5_reach 10 = .ok (.istore 6, 2) := by decide +kernel
theorem dX5_reach_12 : decode cX5_reach 12 = .ok (.iload 6, 2) := by decide +kernel
theorem dX5_reach_14 : decode cX5_reach 14 = .ok (.aload_n 0, 1) := by decide +kernel
theorem dX5_reach_15 : decode cX5_reach 15 = .ok (.getfield 68, 3) := by decide +kernel
theorem dX5_reach_18 : decode cX5_reach 18 = .ok (.if_icmp .ge 35, 3) := by decide +kernel
theorem dX5_reach_21 : decode cX5_reach 21 = .ok (.aload_n 0, 1) := by decide +kernel
theorem dX5_reach_22 : decode cX5_reach 22 = .ok (.getfield 43, 3) := by decide +kernel
theorem dX5_reach_25 : decode cX5_reach 25 = .ok (.iload 6, 2) := by decide +kernel
theorem dX5_reach_27 : decode cX5_reach 27 = .ok (.iaload, 1) := by decide +kernel
theorem dX5_reach_28 : decode cX5_reach 28 = .ok (.iload_n 3, 1) := by decide +kernel
theorem dX5_reach_29 : decode cX5_reach 29 = .ok (.if_icmp .ne 18, 3) := by decide +kernel
theorem dX5_reach_32 : decode cX5_reach 32 = .ok (.aload_n 0, 1) := by decide +kernel
theorem dX5_reach_33 : decode cX5_reach 33 = .ok (.getfield 47, 3) := by decide +kernel
theorem dX5_reach_36 : decode cX5_reach 36 = .ok (.iload 6, 2) := by decide +kernel
theorem dX5_reach_38 : decode cX5_reach 38 = .ok (.iaload, 1) := by decide +kernel
theorem dX5_reach_39 : decode cX5_reach 39 = .ok (.iload 5, 2) := by decide +kernel
theorem dX5_reach_41 : decode cX5_reach 41 = .ok (.if_icmp .ne 6, 3) := by decide +kernel
theorem dX5_reach_44 : decode cX5_reach 44 = .ok (.iload 6, 2) := by decide +kernel
theorem dX5_reach_46 : decode cX5_reach 46 = .ok (.ireturn, 1) := by decide +kernel
theorem dX5_reach_47 : decode cX5_reach 47 = .ok (.iinc 6 1, 3) := by decide +kernel
theorem dX5_reach_50 : decode cX5_reach 50 = .ok (.goto (-38), 3) := by decide +kernel
theorem dX5_reach_53 : decode cX5_reach 53 = .ok (.aload_n 0, 1) := by decide +kernel
theorem dX5_reach_54 : decode cX5_reach 54 = .ok (.getfield 68, 3) := by decide +kernel
theorem dX5_reach_57 : decode cX5_reach 57 = .ok (.bipush 48, 2) := by decide +kernel
theorem dX5_reach_59 : decode cX5_reach 59 = .ok (.if_icmp .lt 10, 3) := by decide +kernel
theorem dX5_reach_62 : decode cX5_reach 62 = .ok (.aload_n 0, 1) := by decide +kernel
theorem dX5_reach_63 : decode cX5_reach 63 = .ok (.iconst 1, 1) := by decide +kernel
theorem dX5_reach_64 : decode cX5_reach 64 = .ok (.putfield 24, 3) := by decide +kernel
theorem dX5_reach_67 : decode cX5_reach 67 = .ok (.iconst (-1), 1) := by decide +kernel
theorem dX5_reach_68 : decode cX5_reach 68 = .ok (.ireturn, 1) := by decide +kernel
theorem dX5_reach_69 : decode cX5_reach 69 = .ok (.aload_n 0, 1) := by decide +kernel
theorem dX5_reach_70 : decode cX5_reach 70 = .ok (.getfield 43, 3) := by decide +kernel
theorem dX5_reach_73 : decode cX5_reach 73 = .ok (.aload_n 0, 1) := by decide +kernel
theorem dX5_reach_74 : decode cX5_reach 74 = .ok (.getfield 68, 3) := by decide +kernel
theorem dX5_reach_77 : decode cX5_reach 77 = .ok (.iload_n 3, 1) := by decide +kernel
theorem dX5_reach_78 : decode cX5_reach 78 = .ok (.iastore, 1) := by decide +kernel
theorem dX5_reach_79 : decode cX5_reach 79 = .ok (.aload_n 0, 1) := by decide +kernel
theorem dX5_reach_80 : decode cX5_reach 80 = .ok (.getfield 47, 3) := by decide +kernel
theorem dX5_reach_83 : decode cX5_reach 83 = .ok (.aload_n 0, 1) := by decide +kernel
theorem dX5_reach_84 : decode cX5_reach 84 = .ok (.getfield 68, 3) := by decide +kernel
theorem dX5_reach_87 : decode cX5_reach 87 = .ok (.iload 5, 2) := by decide +kernel
theorem dX5_reach_89 : decode cX5_reach 89 = .ok (.iastore, 1) := by decide +kernel
theorem dX5_reach_90 : decode cX5_reach 90 = .ok (.aload_n 0, 1) := by decide +kernel
theorem dX5_reach_91 : decode cX5_reach 91 = .ok (.getfield 50, 3) := by decide +kernel
theorem dX5_reach_94 : decode cX5_reach 94 = .ok (.aload_n 0, 1) := by decide +kernel
theorem dX5_reach_95 : decode cX5_reach 95 = .ok (.getfield 68, 3) := by decide +kernel
theorem dX5_reach_98 : decode cX5_reach 98 = .ok (.iload_n 1, 1) := by decide +kernel
theorem dX5_reach_99 : decode cX5_reach 99 = .ok (.iastore, 1) := by decide +kernel
theorem dX5_reach_100 : decode cX5_reach 100 = .ok (.aload_n 0, 1) := by decide +kernel
theorem dX5_reach_101 : decode cX5_reach 101 = .ok (.getfield 53, 3) := by decide +kernel
theorem dX5_reach_104 : decode cX5_reach 104 = .ok (.aload_n 0, 1) := by decide +kernel
theorem dX5_reach_105 : decode cX5_reach 105 = .ok (.getfield 68, 3) := by decide +kernel
theorem dX5_reach_108 : decode cX5_reach 108 = .ok (.iload_n 2, 1) := by decide +kernel
theorem dX5_reach_109 : decode cX5_reach 109 = .ok (.iastore, 1) := by decide +kernel
theorem dX5_reach_110 : decode cX5_reach 110 = .ok (.aload_n 0, 1) := by decide +kernel
theorem dX5_reach_111 : decode cX5_reach 111 = .ok (.dup, 1) := by decide +kernel
theorem dX5_reach_112 : decode cX5_reach 112 = .ok (.getfield 68, 3) := by decide +kernel
theorem dX5_reach_115 : decode cX5_reach 115 = .ok (.iconst 1, 1) := by decide +kernel
theorem dX5_reach_116 : decode cX5_reach 116 = .ok (.iadd, 1) := by decide +kernel
theorem dX5_reach_117 : decode cX5_reach 117 = .ok (.putfield 68, 3) := by decide +kernel
theorem dX5_reach_120 : decode cX5_reach 120 = .ok (.aload_n 0, 1) := by decide +kernel
theorem dX5_reach_121 : decode cX5_reach 121 = .ok (.getfield 68, 3) := by decide +kernel
theorem dX5_reach_124 : decode cX5_reach 124 = .ok (.iconst 1, 1) := by decide +kernel
theorem dX5_reach_125 : decode cX5_reach 125 = .ok (.isub, 1) := by decide +kernel
theorem dX5_reach_126 : decode cX5_reach 126 = .ok (.ireturn, 1) := by decide +kernel
theorem dX5_groupAlike_0 : decode cX5_groupAlike 0 = .ok (.iconst 1, 1) := by decide +kernel
theorem dX5_groupAlike_1 : decode cX5_groupAlike 1 = .ok (.istore_n 1, 1) := by decide +kernel
theorem dX5_groupAlike_2 : decode cX5_groupAlike 2 = .ok (.iconst 0, 1) := by decide +kernel
theorem dX5_groupAlike_3 : decode cX5_groupAlike 3 = .ok (.istore_n 2, 1) := by decide +kernel
theorem dX5_groupAlike_4 : decode cX5_groupAlike 4 = .ok (.iload_n 2, 1) := by decide +kernel
theorem dX5_groupAlike_5 : decode cX5_groupAlike 5 = .ok (.bipush 48, 2) := by decide +kernel
theorem dX5_groupAlike_7 : decode cX5_groupAlike 7 = .ok (.if_icmp .gt 84, 3) := by decide +kernel
theorem dX5_groupAlike_10 : decode cX5_groupAlike 10 = .ok (.iload_n 1, 1) := by decide +kernel
theorem dX5_groupAlike_11 : decode cX5_groupAlike 11 = .ok (.ifCond .eq 80, 3) := by decide +kernel
theorem dX5_groupAlike_14 : decode cX5_groupAlike 14 = .ok (.iconst 0, 1) := by decide +kernel
theorem dX5_groupAlike_15 : decode cX5_groupAlike 15 = .ok (.istore_n 1, 1) := by decide +kernel
theorem dX5_groupAlike_16 : decode cX5_groupAlike 16 = .ok (.iconst 0, 1) := by decide +kernel
theorem dX5_groupAlike_17 : decode cX5_groupAlike 17 = .ok (.istore_n 3, 1) := by decide +kernel
theorem dX5_groupAlike_18 : decode cX5_groupAlike 18 = .ok (.iload_n 3, 1) := by decide +kernel
theorem dX5_groupAlike_19 : decode cX5_groupAlike 19 = .ok (.aload_n 0, 1) := by decide +kernel
theorem dX5_groupAlike_20 : decode cX5_groupAlike 20 = .ok (.getfield 68, 3) := by decide +kernel
theorem dX5_groupAlike_23 : decode cX5_groupAlike 23 = .ok (.if_icmp .ge 45, 3) := by decide +kernel
theorem dX5_groupAlike_26 : decode cX5_groupAlike 26 = .ok (.aload_n 0, 1) := by decide +kernel
theorem dX5_groupAlike_27 : decode cX5_groupAlike 27 = .ok (.getfield 65, 3) := by decide +kernel
theorem dX5_groupAlike_30 : decode cX5_groupAlike 30 = .ok (.iload_n 3, 1) := by decide +kernel
theorem dX5_groupAlike_31 : decode cX5_groupAlike 31 = .ok (.aload_n 0, 1) := by decide +kernel
theorem dX5_groupAlike_32 : decode cX5_groupAlike 32 = .ok (.iload_n 3, 1) := by decide +kernel
theorem dX5_groupAlike_33 : decode cX5_groupAlike 33 = .ok (.invokevirtual 120, 3) := by decide +kernel
theorem dX5_groupAlike_36 : decode cX5_groupAlike 36 = .ok (.iastore, 1) := by decide +kernel
theorem dX5_groupAlike_37 : decode cX5_groupAlike 37 = .ok (.iload_n 1, 1) := by decide +kernel
theorem dX5_groupAlike_38 : decode cX5_groupAlike 38 = .ok (.ifCond .ne 18, 3) := by decide +kernel
theorem dX5_groupAlike_41 : decode cX5_groupAlike 41 = .ok (.aload_n 0, 1) := by decide +kernel
theorem dX5_groupAlike_42 : decode cX5_groupAlike 42 = .ok (.getfield 65, 3) := by decide +kernel
theorem dX5_groupAlike_45 : decode cX5_groupAlike 45 = .ok (.iload_n 3, 1) := by decide +kernel
theorem dX5_groupAlike_46 : decode cX5_groupAlike 46 = .ok (.iaload, 1) := by decide +kernel
theorem dX5_groupAlike_47 : decode cX5_groupAlike 47 = .ok (.aload_n 0, 1) := by decide +kernel
theorem dX5_groupAlike_48 : decode cX5_groupAlike 48 = .ok (.getfield 62, 3) := by decide +kernel
theorem dX5_groupAlike_51 : decode cX5_groupAlike 51 = .ok (.iload_n 3, 1) := by decide +kernel
theorem dX5_groupAlike_52 : decode cX5_groupAlike 52 = .ok (.iaload, 1) := by decide +kernel
theorem dX5_groupAlike_53 : decode cX5_groupAlike 53 = .ok (.if_icmp .eq 7, 3) := by decide +kernel
theorem dX5_groupAlike_56 : decode cX5_groupAlike 56 = .ok (.iconst 1, 1) := by decide +kernel
theorem dX5_groupAlike_57 : decode cX5_groupAlike 57 = .ok (.goto 4, 3) := by decide +kernel
theorem dX5_groupAlike_60 : decode cX5_groupAlike 60 = .ok (.iconst 0, 1) := by decide +kernel
theorem dX5_groupAlike_61 : decode cX5_groupAlike 61 = .ok (.istore_n 1, 1) := by decide +kernel
theorem dX5_groupAlike_62 : decode cX5_groupAlike 62 = .ok (.iinc 3 1, 3) := by decide +kernel
theorem dX5_groupAlike_65 : decode cX5_groupAlike 65 = .ok (.goto (-47), 3) := by decide +kernel
theorem dX5_groupAlike_68 : decode cX5_groupAlike 68 = .ok (.aload_n 0, 1) := by decide +kernel
theorem dX5_groupAlike_69 : decode cX5_groupAlike 69 = .ok (.getfield 65, 3) := by decide +kernel
theorem dX5_groupAlike_72 : decode cX5_groupAlike 72 = .ok (.iconst 0, 1) := by decide +kernel
theorem dX5_groupAlike_73 : decode cX5_groupAlike 73 = .ok (.aload_n 0, 1) := by decide +kernel
theorem dX5_groupAlike_74 : decode cX5_groupAlike 74 = .ok (.getfield 62, 3) := by decide +kernel
theorem dX5_groupAlike_77 : decode cX5_groupAlike 77 = .ok (.iconst 0, 1) := by decide +kernel
theorem dX5_groupAlike_78 : decode cX5_groupAlike 78 = .ok (.aload_n 0, 1) := by decide +kernel
theorem dX5_groupAlike_79 : decode cX5_groupAlike 79 = .ok (.getfield 68, 3) := by decide +kernel
theorem dX5_groupAlike_82 : decode cX5_groupAlike 82 = .ok (.invokestatic 123, 3) := by decide +kernel
theorem dX5_groupAlike_85 : decode cX5_groupAlike 85 = .ok (.iinc 2 1, 3) := by decide +kernel
theorem dX5_groupAlike_88 : decode cX5_groupAlike 88 = .ok (.goto (-84), 3) := by decide +kernel
theorem dX5_groupAlike_91 : decode cX5_groupAlike 91 = .ok (.return_, 1) := by decide +kernel
theorem dX5_leastAlike_0 : decode cX5_leastAlike 0 = .ok (.iconst 0, 1) := by decide +kernel
theorem dX5_leastAlike_1 : decode cX5_leastAlike 1 = .ok (.istore_n 2, 1) := by decide +kernel
theorem dX5_leastAlike_2 : decode cX5_leastAlike 2 = .ok (.iload_n 2, 1) := by decide +kernel
theorem dX5_leastAlike_3 : decode cX5_leastAlike 3 = .ok (.iload_n 1, 1) := by decide +kernel
theorem dX5_leastAlike_4 : decode cX5_leastAlike 4 = .ok (.if_icmp .ge 45, 3) := by decide +kernel
theorem dX5_leastAlike_7 : decode cX5_leastAlike 7 = .ok (.aload_n 0, 1) := by decide +kernel
theorem dX5_leastAlike_8 : decode cX5_leastAlike 8 = .ok (.getfield 65, 3) := by decide +kernel
theorem dX5_leastAlike_11 : decode cX5_leastAlike 11 = .ok (.iload_n 2, 1) := by decide +kernel
theorem dX5_leastAlike_12 : decode cX5_leastAlike 12 = .ok (.iaload, 1) := by decide +kernel
theorem dX5_leastAlike_13 : decode cX5_leastAlike 13 = .ok (.iload_n 2, 1) := by decide +kernel
theorem dX5_leastAlike_14 : decode cX5_leastAlike 14 = .ok (.if_icmp .ne 29, 3) := by decide +kernel
theorem dX5_leastAlike_17 : decode cX5_leastAlike 17 = .ok (.aload_n 0, 1) := by decide +kernel
theorem dX5_leastAlike_18 : decode cX5_leastAlike 18 = .ok (.getfield 62, 3) := by decide +kernel
theorem dX5_leastAlike_21 : decode cX5_leastAlike 21 = .ok (.iload_n 2, 1) := by decide +kernel
theorem dX5_leastAlike_22 : decode cX5_leastAlike 22 = .ok (.iaload, 1) := by decide +kernel
theorem dX5_leastAlike_23 : decode cX5_leastAlike 23 = .ok (.aload_n 0, 1) := by decide +kernel
theorem dX5_leastAlike_24 : decode cX5_leastAlike 24 = .ok (.getfield 62, 3) := by decide +kernel
theorem dX5_leastAlike_27 : decode cX5_leastAlike 27 = .ok (.iload_n 1, 1) := by decide +kernel
theorem dX5_leastAlike_28 : decode cX5_leastAlike 28 = .ok (.iaload, 1) := by decide +kernel
theorem dX5_leastAlike_29 : decode cX5_leastAlike 29 = .ok (.if_icmp .ne 14, 3) := by decide +kernel
theorem dX5_leastAlike_32 : decode cX5_leastAlike 32 = .ok (.aload_n 0, 1) := by decide +kernel
theorem dX5_leastAlike_33 : decode cX5_leastAlike 33 = .ok (.iload_n 2, 1) := by decide +kernel
theorem dX5_leastAlike_34 : decode cX5_leastAlike 34 = .ok (.iload_n 1, 1) := by decide +kernel
theorem dX5_leastAlike_35 : decode cX5_leastAlike 35 = .ok (.invokevirtual 129, 3) := by decide +kernel
theorem dX5_leastAlike_38 : decode cX5_leastAlike 38 = .ok (.ifCond .eq 5, 3) := by decide +kernel
theorem dX5_leastAlike_41 : decode cX5_leastAlike 41 = .ok (.iload_n 2, 1) := by decide +kernel
theorem dX5_leastAlike_42 : decode cX5_leastAlike 42 = .ok (.ireturn, 1) := by decide +kernel
theorem dX5_leastAlike_43 : decode cX5_leastAlike 43 = .ok (.iinc 2 1, 3) := by decide +kernel
theorem dX5_leastAlike_46 : decode cX5_leastAlike 46 = .ok (.goto (-44), 3) := by decide +kernel
theorem dX5_leastAlike_49 : decode cX5_leastAlike 49 = .ok (.iload_n 1, 1) := by decide +kernel
theorem dX5_leastAlike_50 : decode cX5_leastAlike 50 = .ok (.ireturn, 1) := by decide +kernel
theorem dX5_moveAlike_0 : decode cX5_moveAlike 0 = .ok (.iconst 0, 1) := by decide +kernel
theorem dX5_moveAlike_1 : decode cX5_moveAlike 1 = .ok (.istore_n 3, 1) := by decide +kernel
theorem dX5_moveAlike_2 : decode cX5_moveAlike 2 = .ok (.iload_n 3, 1) := by decide +kernel
theorem dX5_moveAlike_3 : decode cX5_moveAlike 3 = .ok (.aload_n 0, 1) := by decide +kernel
theorem dX5_moveAlike_4 : decode cX5_moveAlike 4 = .ok (.getfield 28, 3) := by decide +kernel
theorem dX5_moveAlike_7 : decode cX5_moveAlike 7 = .ok (.if_icmp .ge 84, 3) := by decide +kernel
theorem dX5_moveAlike_10 : decode cX5_moveAlike 10 = .ok (.iload_n 1, 1) := by decide +kernel
theorem dX5_moveAlike_11 : decode cX5_moveAlike 11 = .ok (.aload_n 0, 1) := by decide +kernel
theorem dX5_moveAlike_12 : decode cX5_moveAlike 12 = .ok (.getfield 28, 3) := by decide +kernel
theorem dX5_moveAlike_15 : decode cX5_moveAlike 15 = .ok (.imul, 1) := by decide +kernel
theorem dX5_moveAlike_16 : decode cX5_moveAlike 16 = .ok (.iload_n 3, 1) := by decide +kernel
theorem dX5_moveAlike_17 : decode cX5_moveAlike 17 = .ok (.iadd, 1) := by decide +kernel
theorem dX5_moveAlike_18 : decode cX5_moveAlike 18 = .ok (.istore 4, 2) := by decide +kernel
theorem dX5_moveAlike_20 : decode cX5_moveAlike 20 = .ok (.iload_n 2, 1) := by decide +kernel
theorem dX5_moveAlike_21 : decode cX5_moveAlike 21 = .ok (.aload_n 0, 1) := by decide +kernel
theorem dX5_moveAlike_22 : decode cX5_moveAlike 22 = .ok (.getfield 28, 3) := by decide +kernel
theorem dX5_moveAlike_25 : decode cX5_moveAlike 25 = .ok (.imul, 1) := by decide +kernel
theorem dX5_moveAlike_26 : decode cX5_moveAlike 26 = .ok (.iload_n 3, 1) := by decide +kernel
theorem dX5_moveAlike_27 : decode cX5_moveAlike 27 = .ok (.iadd, 1) := by decide +kernel
theorem dX5_moveAlike_28 : decode cX5_moveAlike 28 = .ok (.istore 5, 2) := by decide +kernel
theorem dX5_moveAlike_30 : decode cX5_moveAlike 30 = .ok (.aload_n 0, 1) := by decide +kernel
theorem dX5_moveAlike_31 : decode cX5_moveAlike 31 = .ok (.getfield 59, 3) := by decide +kernel
theorem dX5_moveAlike_34 : decode cX5_moveAlike 34 = .ok (.iload 4, 2) := by decide +kernel
theorem dX5_moveAlike_36 : decode cX5_moveAlike 36 = .ok (.iaload, 1) := by decide +kernel
theorem dX5_moveAlike_37 : decode cX5_moveAlike 37 = .ok (.aload_n 0, 1) := by decide +kernel
theorem dX5_moveAlike_38 : decode cX5_moveAlike 38 = .ok (.getfield 59, 3) := by decide +kernel
theorem dX5_moveAlike_41 : decode cX5_moveAlike 41 = .ok (.iload 5, 2) := by decide +kernel
theorem dX5_moveAlike_43 : decode cX5_moveAlike 43 = .ok (.iaload, 1) := by decide +kernel
theorem dX5_moveAlike_44 : decode cX5_moveAlike 44 = .ok (.ixor, 1) := by decide +kernel
theorem dX5_moveAlike_45 : decode cX5_moveAlike 45 = .ok (.aload_n 0, 1) := by decide +kernel
theorem dX5_moveAlike_46 : decode cX5_moveAlike 46 = .ok (.getfield 9, 3) := by decide +kernel
theorem dX5_moveAlike_49 : decode cX5_moveAlike 49 = .ok (.getfield 132, 3) := by decide +kernel
theorem dX5_moveAlike_52 : decode cX5_moveAlike 52 = .ok (.iand, 1) := by decide +kernel
theorem dX5_moveAlike_53 : decode cX5_moveAlike 53 = .ok (.ifCond .eq 5, 3) := by decide +kernel
theorem dX5_moveAlike_56 : decode cX5_moveAlike 56 = .ok (.iconst 0, 1) := by decide +kernel
theorem dX5_moveAlike_57 : decode cX5_moveAlike 57 = .ok (.ireturn, 1) := by decide +kernel
theorem dX5_moveAlike_58 : decode cX5_moveAlike 58 = .ok (.aload_n 0, 1) := by decide +kernel
theorem dX5_moveAlike_59 : decode cX5_moveAlike 59 = .ok (.aload_n 0, 1) := by decide +kernel
theorem dX5_moveAlike_60 : decode cX5_moveAlike 60 = .ok (.getfield 56, 3) := by decide +kernel
theorem dX5_moveAlike_63 : decode cX5_moveAlike 63 = .ok (.iload 4, 2) := by decide +kernel
theorem dX5_moveAlike_65 : decode cX5_moveAlike 65 = .ok (.iaload, 1) := by decide +kernel
theorem dX5_moveAlike_66 : decode cX5_moveAlike 66 = .ok (.invokevirtual 135, 3) := by decide +kernel
theorem dX5_moveAlike_69 : decode cX5_moveAlike 69 = .ok (.aload_n 0, 1) := by decide +kernel
theorem dX5_moveAlike_70 : decode cX5_moveAlike 70 = .ok (.aload_n 0, 1) := by decide +kernel
theorem dX5_moveAlike_71 : decode cX5_moveAlike 71 = .ok (.getfield 56, 3) := by decide +kernel
theorem dX5_moveAlike_74 : decode cX5_moveAlike 74 = .ok (.iload 5, 2) := by decide +kernel
theorem dX5_moveAlike_76 : decode cX5_moveAlike 76 = .ok (.iaload, 1) := by decide +kernel
theorem dX5_moveAlike_77 : decode cX5_moveAlike 77 = .ok (.invokevirtual 135, 3) := by decide +kernel
theorem dX5_moveAlike_80 : decode cX5_moveAlike 80 = .ok (.if_icmp .eq 5, 3) := by decide +kernel
theorem dX5_moveAlike_83 : decode cX5_moveAlike 83 = .ok (.iconst 0, 1) := by decide +kernel
theorem dX5_moveAlike_84 : decode cX5_moveAlike 84 = .ok (.ireturn, 1) := by decide +kernel
theorem dX5_moveAlike_85 : decode cX5_moveAlike 85 = .ok (.iinc 3 1, 3) := by decide +kernel
theorem dX5_moveAlike_88 : decode cX5_moveAlike 88 = .ok (.goto (-86), 3) := by decide +kernel
theorem dX5_moveAlike_91 : decode cX5_moveAlike 91 = .ok (.iconst 1, 1) := by decide +kernel
theorem dX5_moveAlike_92 : decode cX5_moveAlike 92 = .ok (.ireturn, 1) := by decide +kernel
theorem dX5_groupOf_0 : decode cX5_groupOf 0 = .ok (.iload_n 1, 1) := by decide +kernel
theorem dX5_groupOf_1 : decode cX5_groupOf 1 = .ok (.ifCond .ge 7, 3) := by decide +kernel
theorem dX5_groupOf_4 : decode cX5_groupOf 4 = .ok (.iload_n 1, 1) := by decide +kernel
theorem dX5_groupOf_5 : decode cX5_groupOf 5 = .ok (.goto 9, 3) := by decide +kernel
theorem dX5_groupOf_8 : decode cX5_groupOf 8 = .ok (.aload_n 0, 1) := by decide +kernel
theorem dX5_groupOf_9 : decode cX5_groupOf 9 = .ok (.getfield 62, 3) := by decide +kernel
theorem dX5_groupOf_12 : decode cX5_groupOf 12 = .ok (.iload_n 1, 1) := by decide +kernel
theorem dX5_groupOf_13 : decode cX5_groupOf 13 = .ok (.iaload, 1) := by decide +kernel
theorem dX5_groupOf_14 : decode cX5_groupOf 14 = .ok (.ireturn, 1) := by decide +kernel
theorem dX5_hasState_0 : decode cX5_hasState 0 = .ok (.iload_n 1, 1) := by decide +kernel
theorem dX5_hasState_1 : decode cX5_hasState 1 = .ok (.ifCond .lt 15, 3) := by decide +kernel
theorem dX5_hasState_4 : decode cX5_hasState 4 = .ok (.iload_n 1, 1) := by decide +kernel
theorem dX5_hasState_5 : decode cX5_hasState 5 = .ok (.aload_n 0, 1) := by decide +kernel
theorem dX5_hasState_6 : decode cX5_hasState 6 = .ok (.getfield 68, 3) := by decide +kernel
theorem dX5_hasState_9 : decode cX5_hasState 9 = .ok (.if_icmp .ge 7, 3) := by decide +kernel
theorem dX5_hasState_12 : decode cX5_hasState 12 = .ok (.iconst 1, 1) := by decide +kernel
theorem dX5_hasState_13 : decode cX5_hasState 13 = .ok (.goto 4, 3) := by decide +kernel
theorem dX5_hasState_16 : decode cX5_hasState 16 = .ok (.iconst 0, 1) := by decide +kernel
theorem dX5_hasState_17 : decode cX5_hasState 17 = .ok (.ireturn, 1) := by decide +kernel
theorem dX5_stepsTo_0 : decode cX5_stepsTo 0 = .ok (.iconst 0, 1) := by decide +kernel
theorem dX5_stepsTo_1 : decode cX5_stepsTo 1 = .ok (.istore_n 2, 1) := by decide +kernel
theorem dX5_stepsTo_2 : decode cX5_stepsTo 2 = .ok (.iload_n 1, 1) := by decide +kernel
theorem dX5_stepsTo_3 : decode cX5_stepsTo 3 = .ok (.istore_n 3, 1) := by decide +kernel
theorem dX5_stepsTo_4 : decode cX5_stepsTo 4 = .ok (.iload_n 3, 1) := by decide +kernel
theorem dX5_stepsTo_5 : decode cX5_stepsTo 5 = .ok (.ifCond .eq 22, 3) := by decide +kernel
theorem dX5_stepsTo_8 : decode cX5_stepsTo 8 = .ok (.iload_n 2, 1) := by decide +kernel
theorem dX5_stepsTo_9 : decode cX5_stepsTo 9 = .ok (.bipush 48, 2) := by decide +kernel
theorem dX5_stepsTo_11 : decode cX5_stepsTo 11 = .ok (.if_icmp .ge 16, 3) := by decide +kernel
theorem dX5_stepsTo_14 : decode cX5_stepsTo 14 = .ok (.aload_n 0, 1) := by decide +kernel
theorem dX5_stepsTo_15 : decode cX5_stepsTo 15 = .ok (.getfield 50, 3) := by decide +kernel
theorem dX5_stepsTo_18 : decode cX5_stepsTo 18 = .ok (.iload_n 3, 1) := by decide +kernel
theorem dX5_stepsTo_19 : decode cX5_stepsTo 19 = .ok (.iaload, 1) := by decide +kernel
theorem dX5_stepsTo_20 : decode cX5_stepsTo 20 = .ok (.istore_n 3, 1) := by decide +kernel
theorem dX5_stepsTo_21 : decode cX5_stepsTo 21 = .ok (.iinc 2 1, 3) := by decide +kernel
theorem dX5_stepsTo_24 : decode cX5_stepsTo 24 = .ok (.goto (-20), 3) := by decide +kernel
theorem dX5_stepsTo_27 : decode cX5_stepsTo 27 = .ok (.iload_n 2, 1) := by decide +kernel
theorem dX5_stepsTo_28 : decode cX5_stepsTo 28 = .ok (.ireturn, 1) := by decide +kernel
theorem dX5_stepTo_0 : decode cX5_stepTo 0 = .ok (.iload_n 1, 1) := by decide +kernel
theorem dX5_stepTo_1 : decode cX5_stepTo 1 = .ok (.istore_n 3, 1) := by decide +kernel
theorem dX5_stepTo_2 : decode cX5_stepTo 2 = .ok (.iconst 0, 1) := by decide +kernel
theorem dX5_stepTo_3 : decode cX5_stepTo 3 = .ok (.istore 4, 2) := by decide +kernel
theorem dX5_stepTo_5 : decode cX5_stepTo 5 = .ok (.iload 4, 2) := by decide +kernel
theorem dX5_stepTo_7 : decode cX5_stepTo 7 = .ok (.iload_n 2, 1) := by decide +kernel
theorem dX5_stepTo_8 : decode cX5_stepTo 8 = .ok (.if_icmp .ge 23, 3) := by decide +kernel
theorem dX5_stepTo_11 : decode cX5_stepTo 11 = .ok (.iload 4, 2) := by decide +kernel
theorem dX5_stepTo_13 : decode cX5_stepTo 13 = .ok (.bipush 48, 2) := by decide +kernel
theorem dX5_stepTo_15 : decode cX5_stepTo 15 = .ok (.if_icmp .ge 16, 3) := by decide +kernel
theorem dX5_stepTo_18 : decode cX5_stepTo 18 = .ok (.aload_n 0, 1) := by decide +kernel
theorem dX5_stepTo_19 : decode cX5_stepTo 19 = .ok (.getfield 50, 3) := by decide +kernel
theorem dX5_stepTo_22 : decode cX5_stepTo 22 = .ok (.iload_n 3, 1) := by decide +kernel
theorem dX5_stepTo_23 : decode cX5_stepTo 23 = .ok (.iaload, 1) := by decide +kernel
theorem dX5_stepTo_24 : decode cX5_stepTo 24 = .ok (.istore_n 3, 1) := by decide +kernel
theorem dX5_stepTo_25 : decode cX5_stepTo 25 = .ok (.iinc 4 1, 3) := by decide +kernel
theorem dX5_stepTo_28 : decode cX5_stepTo 28 = .ok (.goto (-23), 3) := by decide +kernel
theorem dX5_stepTo_31 : decode cX5_stepTo 31 = .ok (.aload_n 0, 1) := by decide +kernel
theorem dX5_stepTo_32 : decode cX5_stepTo 32 = .ok (.getfield 53, 3) := by decide +kernel
theorem dX5_stepTo_35 : decode cX5_stepTo 35 = .ok (.iload_n 3, 1) := by decide +kernel
theorem dX5_stepTo_36 : decode cX5_stepTo 36 = .ok (.iaload, 1) := by decide +kernel
theorem dX5_stepTo_37 : decode cX5_stepTo 37 = .ok (.ireturn, 1) := by decide +kernel
theorem dX5_firstAgainst_0 : decode cX5_firstAgainst 0 = .ok (.iconst 0, 1) := by decide +kernel
theorem dX5_firstAgainst_1 : decode cX5_firstAgainst 1 = .ok (.istore_n 3, 1) := by decide +kernel
theorem dX5_firstAgainst_2 : decode cX5_firstAgainst 2 = .ok (.iload_n 3, 1) := by decide +kernel
theorem dX5_firstAgainst_3 : decode cX5_firstAgainst 3 = .ok (.aload_n 0, 1) := by decide +kernel
theorem dX5_firstAgainst_4 : decode cX5_firstAgainst 4 = .ok (.getfield 68, 3) := by decide +kernel
theorem dX5_firstAgainst_7 : decode cX5_firstAgainst 7 = .ok (.if_icmp .ge 65, 3) := by decide +kernel
theorem dX5_firstAgainst_10 : decode cX5_firstAgainst 10 = .ok (.iconst 0, 1) := by decide +kernel
theorem dX5_firstAgainst_11 : decode cX5_firstAgainst 11 = .ok (.istore 4, 2) := by decide +kernel
theorem dX5_firstAgainst_13 : decode cX5_firstAgainst 13 = .ok (.iload 4, 2) := by decide +kernel
theorem dX5_firstAgainst_15 : decode cX5_firstAgainst 15 = .ok (.aload_n 0, 1) := by decide +kernel
theorem dX5_firstAgainst_16 : decode cX5_firstAgainst 16 = .ok (.getfield 28, 3) := by decide +kernel
theorem dX5_firstAgainst_19 : decode cX5_firstAgainst 19 = .ok (.if_icmp .ge 47, 3) := by decide +kernel
theorem dX5_firstAgainst_22 : decode cX5_firstAgainst 22 = .ok (.aload_n 0, 1) := by decide +kernel
theorem dX5_firstAgainst_23 : decode cX5_firstAgainst 23 = .ok (.getfield 59, 3) := by decide +kernel
theorem dX5_firstAgainst_26 : decode cX5_firstAgainst 26 = .ok (.iload_n 3, 1) := by decide +kernel
theorem dX5_firstAgainst_27 : decode cX5_firstAgainst 27 = .ok (.aload_n 0, 1) := by decide +kernel
theorem dX5_firstAgainst_28 : decode cX5_firstAgainst 28 = .ok (.getfield 28, 3) := by decide +kernel
theorem dX5_firstAgainst_31 : decode cX5_firstAgainst 31 = .ok (.imul, 1) := by decide +kernel
theorem dX5_firstAgainst_32 : decode cX5_firstAgainst 32 = .ok (.iload 4, 2) := by decide +kernel
theorem dX5_firstAgainst_34 : decode cX5_firstAgainst 34 = .ok (.iadd, 1) := by decide +kernel
theorem dX5_firstAgainst_35 : decode cX5_firstAgainst 35 = .ok (.iaload, 1) := by decide +kernel
theorem dX5_firstAgainst_36 : decode cX5_firstAgainst 36 = .ok (.istore 5, 2) := by decide +kernel
theorem dX5_firstAgainst_38 : decode cX5_firstAgainst 38 = .ok (.iload 5, 2) := by decide +kernel
theorem dX5_firstAgainst_40 : decode cX5_firstAgainst 40 = .ok (.iload_n 1, 1) := by decide +kernel
theorem dX5_firstAgainst_41 : decode cX5_firstAgainst 41 = .ok (.iand, 1) := by decide +kernel
theorem dX5_firstAgainst_42 : decode cX5_firstAgainst 42 = .ok (.ifCond .eq 18, 3) := by decide +kernel
theorem dX5_firstAgainst_45 : decode cX5_firstAgainst 45 = .ok (.iload 5, 2) := by decide +kernel
theorem dX5_firstAgainst_47 : decode cX5_firstAgainst 47 = .ok (.iload_n 2, 1) := by decide +kernel
theorem dX5_firstAgainst_48 : decode cX5_firstAgainst 48 = .ok (.iand, 1) := by decide +kernel
theorem dX5_firstAgainst_49 : decode cX5_firstAgainst 49 = .ok (.ifCond .ne 11, 3) := by decide +kernel
theorem dX5_firstAgainst_52 : decode cX5_firstAgainst 52 = .ok (.iload_n 3, 1) := by decide +kernel
theorem dX5_firstAgainst_53 : decode cX5_firstAgainst 53 = .ok (.bipush 32, 2) := by decide +kernel
theorem dX5_firstAgainst_55 : decode cX5_firstAgainst 55 = .ok (.imul, 1) := by decide +kernel
theorem dX5_firstAgainst_56 : decode cX5_firstAgainst 56 = .ok (.iload 4, 2) := by decide +kernel
theorem dX5_firstAgainst_58 : decode cX5_firstAgainst 58 = .ok (.iadd, 1) := by decide +kernel
theorem dX5_firstAgainst_59 : decode cX5_firstAgainst 59 = .ok (.ireturn, 1) := by decide +kernel
theorem dX5_firstAgainst_60 : decode cX5_firstAgainst 60 = .ok (.iinc 4 1, 3) := by decide +kernel
theorem dX5_firstAgainst_63 : decode cX5_firstAgainst 63 = .ok (.goto (-50), 3) := by decide +kernel
theorem dX5_firstAgainst_66 : decode cX5_firstAgainst 66 = .ok (.iinc 3 1, 3) := by decide +kernel
theorem dX5_firstAgainst_69 : decode cX5_firstAgainst 69 = .ok (.goto (-67), 3) := by decide +kernel
theorem dX5_firstAgainst_72 : decode cX5_firstAgainst 72 = .ok (.iconst (-1), 1) := by decide +kernel
theorem dX5_firstAgainst_73 : decode cX5_firstAgainst 73 = .ok (.ireturn, 1) := by decide +kernel
theorem dX6_init_0 : decode cX6_init 0 = .ok (.aload_n 0, 1) := by decide +kernel
theorem dX6_init_1 : decode cX6_init 1 = .ok (.invokespecial 3, 3) := by decide +kernel
theorem dX6_init_4 : decode cX6_init 4 = .ok (.aload_n 0, 1) := by decide +kernel
theorem dX6_init_5 : decode cX6_init 5 = .ok (.bipush 16, 2) := by decide +kernel
theorem dX6_init_7 : decode cX6_init 7 = .ok (.newarray .int, 2) := by decide +kernel
theorem dX6_init_9 : decode cX6_init 9 = .ok (.putfield 9, 3) := by decide +kernel
theorem dX6_init_12 : decode cX6_init 12 = .ok (.aload_n 0, 1) := by decide +kernel
theorem dX6_init_13 : decode cX6_init 13 = .ok (.bipush 64, 2) := by decide +kernel
theorem dX6_init_15 : decode cX6_init 15 = .ok (.newarray .long, 2) := by decide +kernel
theorem dX6_init_17 : decode cX6_init 17 = .ok (.putfield 15, 3) := by decide +kernel
theorem dX6_init_20 : decode cX6_init 20 = .ok (.return_, 1) := by decide +kernel
theorem dX6_add_0 : decode cX6_add 0 = .ok (.aload_n 0, 1) := by decide +kernel
theorem dX6_add_1 : decode cX6_add 1 = .ok (.getfield 19, 3) := by decide +kernel
theorem dX6_add_4 : decode cX6_add 4 = .ok (.aload_n 0, 1) := by decide +kernel
theorem dX6_add_5 : decode cX6_add 5 = .ok (.getfield 9, 3) := by decide +kernel
theorem dX6_add_8 : decode cX6_add 8 = .ok (.arraylength, 1) := by decide +kernel
theorem dX6_add_9 : decode cX6_add 9 = .ok (.if_icmp .ne 20, 3) := by decide +kernel
theorem dX6_add_12 : decode cX6_add 12 = .ok (.aload_n 0, 1) := by decide +kernel
theorem dX6_add_13 : decode cX6_add 13 = .ok (.aload_n 0, 1) := by decide +kernel
theorem dX6_add_14 : decode cX6_add 14 = .ok (.getfield 9, 3) := by decide +kernel
theorem dX6_add_17 : decode cX6_add 17 = .ok (.aload_n 0, 1) := by decide +kernel
theorem dX6_add_18 : decode cX6_add 18 = .ok (.getfield 19, 3) := by decide +kernel
theorem dX6_add_21 : decode cX6_add 21 = .ok (.iconst 2, 1) := by decide +kernel
theorem dX6_add_22 : decode cX6_add 22 = .ok (.imul, 1) := by decide +kernel
theorem dX6_add_23 : decode cX6_add 23 = .ok (.invokestatic 23, 3) := by decide +kernel
theorem dX6_add_26 : decode cX6_add 26 = .ok (.putfield 9, 3) := by decide +kernel
theorem dX6_add_29 : decode cX6_add 29 = .ok (.aload_n 0, 1) := by decide +kernel
theorem dX6_add_30 : decode cX6_add 30 = .ok (.getfield 9, 3) := by decide +kernel
theorem dX6_add_33 : decode cX6_add 33 = .ok (.aload_n 0, 1) := by decide +kernel
theorem dX6_add_34 : decode cX6_add 34 = .ok (.getfield 19, 3) := by decide +kernel
theorem dX6_add_37 : decode cX6_add 37 = .ok (.iload_n 1, 1) := by decide +kernel
theorem dX6_add_38 : decode cX6_add 38 = .ok (.iastore, 1) := by decide +kernel
theorem dX6_add_39 : decode cX6_add 39 = .ok (.aload_n 0, 1) := by decide +kernel
theorem dX6_add_40 : decode cX6_add 40 = .ok (.dup, 1) := by decide +kernel
theorem dX6_add_41 : decode cX6_add 41 = .ok (.getfield 19, 3) := by decide +kernel
theorem dX6_add_44 : decode cX6_add 44 = .ok (.iconst 1, 1) := by decide +kernel
theorem dX6_add_45 : decode cX6_add 45 = .ok (.iadd, 1) := by decide +kernel
theorem dX6_add_46 : decode cX6_add 46 = .ok (.putfield 19, 3) := by decide +kernel
theorem dX6_add_49 : decode cX6_add 49 = .ok (.return_, 1) := by decide +kernel
theorem dX6_addWith_0 : decode cX6_addWith 0 = .ok (.aload_n 0, 1) := by decide +kernel
theorem dX6_addWith_1 : decode cX6_addWith 1 = .ok (.iload_n 1, 1) := by decide +kernel
theorem dX6_addWith_2 : decode cX6_addWith 2 = .ok (.invokevirtual 29, 3) := by decide +kernel
theorem dX6_addWith_5 : decode cX6_addWith 5 = .ok (.aload_n 0, 1) := by decide +kernel
theorem dX6_addWith_6 : decode cX6_addWith 6 = .ok (.iload_n 2, 1) := by decide +kernel
theorem dX6_addWith_7 : decode cX6_addWith 7 = .ok (.invokevirtual 29, 3) := by decide +kernel
theorem dX6_addWith_10 : decode cX6_addWith 10 = .ok (.return_, 1) := by decide +kernel
theorem dX6_work_0 : decode cX6_work 0 = .ok (.aload_n 0, 1) := by decide +kernel
theorem dX6_work_1 : decode cX6_work 1 = .ok (.iconst 0, 1) := by decide +kernel
theorem dX6_work_2 : decode cX6_work 2 = .ok (.putfield 33, 3) := by decide +kernel
theorem dX6_work_5 : decode cX6_work 5 = .ok (.aload_n 0, 1) := by decide +kernel
theorem dX6_work_6 : decode cX6_work 6 = .ok (.iconst 0, 1) := by decide +kernel
theorem dX6_work_7 : decode cX6_work 7 = .ok (.putfield 36, 3) := by decide +kernel
theorem dX6_work_10 : decode cX6_work 10 = .ok (.iload_n 1, 1) := by decide +kernel
theorem dX6_work_11 : decode cX6_work 11 = .ok (.istore_n 3, 1) := by decide +kernel
theorem dX6_work_12 : decode cX6_work 12 = .ok (.iload_n 3, 1) := by decide +kernel
theorem dX6_work_13 : decode cX6_work 13 = .ok (.ifCond .lt 109, 3) := by decide +kernel
theorem dX6_work_16 : decode cX6_work 16 = .ok (.iload_n 3, 1) := by decide +kernel
theorem dX6_work_17 : decode cX6_work 17 = .ok (.aload_n 0, 1) := by decide +kernel
theorem dX6_work_18 : decode cX6_work 18 = .ok (.getfield 19, 3) := by decide +kernel
theorem dX6_work_21 : decode cX6_work 21 = .ok (.if_icmp .ge 101, 3) := by decide +kernel
theorem dX6_work_24 : decode cX6_work 24 = .ok (.aload_n 0, 1) := by decide +kernel
theorem dX6_work_25 : decode cX6_work 25 = .ok (.getfield 9, 3) := by decide +kernel
theorem dX6_work_28 : decode cX6_work 28 = .ok (.iload_n 3, 1) := by decide +kernel
theorem dX6_work_29 : decode cX6_work 29 = .ok (.iaload, 1) := by decide +kernel
theorem dX6_work_30 : decode cX6_work 30 = .ok (.ifCond .eq 92, 3) := by decide +kernel
theorem dX6_work_33 : decode cX6_work 33 = .ok (.aload_n 0, 1) := by decide +kernel
theorem dX6_work_34 : decode cX6_work 34 = .ok (.getfield 33, 3) := by decide +kernel
theorem dX6_work_37 : decode cX6_work 37 = .ok (.ifCond .ne 85, 3) := by decide +kernel
theorem dX6_work_40 : decode cX6_work 40 = .ok (.aload_n 0, 1) := by decide +kernel
theorem dX6_work_41 : decode cX6_work 41 = .ok (.getfield 9, 3) := by decide +kernel
theorem dX6_work_44 : decode cX6_work 44 = .ok (.iload_n 3, 1) := by decide +kernel
theorem dX6_work_45 : decode cX6_work 45 = .ok (.iaload, 1) := by decide +kernel
theorem dX6_work_46 : decode cX6_work 46 = .ok (.iconst 3, 1) := by decide +kernel
theorem dX6_work_47 : decode cX6_work 47 = .ok (.if_icmp .gt 42, 3) := by decide +kernel
theorem dX6_work_50 : decode cX6_work 50 = .ok (.aload_n 0, 1) := by decide +kernel
theorem dX6_work_51 : decode cX6_work 51 = .ok (.aload_n 0, 1) := by decide +kernel
theorem dX6_work_52 : decode cX6_work 52 = .ok (.getfield 9, 3) := by decide +kernel
theorem dX6_work_55 : decode cX6_work 55 = .ok (.iload_n 3, 1) := by decide +kernel
theorem dX6_work_56 : decode cX6_work 56 = .ok (.iaload, 1) := by decide +kernel
theorem dX6_work_57 : decode cX6_work 57 = .ok (.iload_n 3, 1) := by decide +kernel
theorem dX6_work_58 : decode cX6_work 58 = .ok (.iconst 1, 1) := by decide +kernel
theorem dX6_work_59 : decode cX6_work 59 = .ok (.iadd, 1) := by decide +kernel
theorem dX6_work_60 : decode cX6_work 60 = .ok (.aload_n 0, 1) := by decide +kernel
theorem dX6_work_61 : decode cX6_work 61 = .ok (.getfield 19, 3) := by decide +kernel
theorem dX6_work_64 : decode cX6_work 64 = .ok (.if_icmp .ge 14, 3) := by decide +kernel
theorem dX6_work_67 : decode cX6_work 67 = .ok (.aload_n 0, 1) := by decide +kernel
theorem dX6_work_68 : decode cX6_work 68 = .ok (.getfield 9, 3) := by decide +kernel
theorem dX6_work_71 : decode cX6_work 71 = .ok (.iload_n 3, 1) := by decide +kernel
theorem dX6_work_72 : decode cX6_work 72 = .ok (.iconst 1, 1) := by decide +kernel
theorem dX6_work_73 : decode cX6_work 73 = .ok (.iadd, 1) := by decide +kernel
theorem dX6_work_74 : decode cX6_work 74 = .ok (.iaload, 1) := by decide +kernel
theorem dX6_work_75 : decode cX6_work 75 = .ok (.goto 4, 3) := by decide +kernel
theorem dX6_work_78 : decode cX6_work 78 = .ok (.iconst 0, 1) := by decide +kernel
theorem dX6_work_79 : decode cX6_work 79 = .ok (.aload_n 2, 1) := by decide +kernel
theorem dX6_work_80 : decode cX6_work 80 = .ok (.invokevirtual 39, 3) := by decide +kernel
theorem dX6_work_83 : decode cX6_work 83 = .ok (.iinc 3 1, 3) := by decide +kernel
theorem dX6_work_86 : decode cX6_work 86 = .ok (.goto 30, 3) := by decide +kernel
theorem dX6_work_89 : decode cX6_work 89 = .ok (.aload_n 0, 1) := by decide +kernel
theorem dX6_work_90 : decode cX6_work 90 = .ok (.getfield 9, 3) := by decide +kernel
theorem dX6_work_93 : decode cX6_work 93 = .ok (.iload_n 3, 1) := by decide +kernel
theorem dX6_work_94 : decode cX6_work 94 = .ok (.iaload, 1) := by decide +kernel
theorem dX6_work_95 : decode cX6_work 95 = .ok (.iconst 4, 1) := by decide +kernel
theorem dX6_work_96 : decode cX6_work 96 = .ok (.if_icmp .ne 10, 3) := by decide +kernel
theorem dX6_work_99 : decode cX6_work 99 = .ok (.aload_n 0, 1) := by decide +kernel
theorem dX6_work_100 : decode cX6_work 100 = .ok (.invokevirtual 43, 3) := by decide +kernel
theorem dX6_work_103 : decode cX6_work 103 = .ok (.goto 13, 3) := by decide +kernel
theorem dX6_work_106 : decode cX6_work 106 = .ok (.aload_n 0, 1) := by decide +kernel
theorem dX6_work_107 : decode cX6_work 107 = .ok (.aload_n 0, 1) := by decide +kernel
theorem dX6_work_108 : decode cX6_work 108 = .ok (.getfield 9, 3) := by decide +kernel
theorem dX6_work_111 : decode cX6_work 111 = .ok (.iload_n 3, 1) := by decide +kernel
theorem dX6_work_112 : decode cX6_work 112 = .ok (.iaload, 1) := by decide +kernel
theorem dX6_work_113 : decode cX6_work 113 = .ok (.invokevirtual 46, 3) := by decide +kernel
theorem dX6_work_116 : decode cX6_work 116 = .ok (.iinc 3 1, 3) := by decide +kernel
theorem dX6_work_119 : decode cX6_work 119 = .ok (.goto (-107), 3) := by decide +kernel
theorem dX6_work_122 : decode cX6_work 122 = .ok (.aload_n 0, 1) := by decide +kernel
theorem dX6_work_123 : decode cX6_work 123 = .ok (.getfield 36, 3) := by decide +kernel
theorem dX6_work_126 : decode cX6_work 126 = .ok (.ifCond .le 20, 3) := by decide +kernel
theorem dX6_work_129 : decode cX6_work 129 = .ok (.aload_n 0, 1) := by decide +kernel
theorem dX6_work_130 : decode cX6_work 130 = .ok (.getfield 33, 3) := by decide +kernel
theorem dX6_work_133 : decode cX6_work 133 = .ok (.ifCond .ne 13, 3) := by decide +kernel
theorem dX6_work_136 : decode cX6_work 136 = .ok (.aload_n 0, 1) := by decide +kernel
theorem dX6_work_137 : decode cX6_work 137 = .ok (.getfield 15, 3) := by decide +kernel
theorem dX6_work_140 : decode cX6_work 140 = .ok (.iconst 0, 1) := by decide +kernel
theorem dX6_work_141 : decode cX6_work 141 = .ok (.laload, 1) := by decide +kernel
theorem dX6_work_142 : decode cX6_work 142 = .ok (.l2i, 1) := by decide +kernel
theorem dX6_work_143 : decode cX6_work 143 = .ok (.goto 4, 3) := by decide +kernel
theorem dX6_work_146 : decode cX6_work 146 = .ok (.iconst 0, 1) := by decide +kernel
theorem dX6_work_147 : decode cX6_work 147 = .ok (.ireturn, 1) := by decide +kernel
theorem dX6_push_0 : decode cX6_push 0 = .ok (.aload_n 0, 1) := by decide +kernel
theorem dX6_push_1 : decode cX6_push 1 = .ok (.getfield 36, 3) := by decide +kernel
theorem dX6_push_4 : decode cX6_push 4 = .ok (.aload_n 0, 1) := by decide +kernel
theorem dX6_push_5 : decode cX6_push 5 = .ok (.getfield 15, 3) := by decide +kernel
theorem dX6_push_8 : decode cX6_push 8 = .ok (.arraylength, 1) := by decide +kernel
theorem dX6_push_9 : decode cX6_push 9 = .ok (.if_icmp .lt 4, 3) := by decide +kernel
theorem dX6_push_12 : decode cX6_push 12 = .ok (.return_, 1) := by decide +kernel
theorem dX6_push_13 : decode cX6_push 13 = .ok (.iload_n 1, 1) := by decide +kernel
theorem dX6_push_14 : decode cX6_push 14 = .ok (.iconst 2, 1) := by decide +kernel
theorem dX6_push_15 : decode cX6_push 15 = .ok (.if_icmp .ne 10, 3) := by decide +kernel
theorem dX6_push_18 : decode cX6_push 18 = .ok (.bipush 20, 2) := by decide +kernel
theorem dX6_push_20 : decode cX6_push 20 = .ok (.iload_n 2, 1) := by decide +kernel
theorem dX6_push_21 : decode cX6_push 21 = .ok (.iadd, 1) := by decide +kernel
theorem dX6_push_22 : decode cX6_push 22 = .ok (.goto 6, 3) := by decide +kernel
theorem dX6_push_25 : decode cX6_push 25 = .ok (.iconst 4, 1) := by decide +kernel
theorem dX6_push_26 : decode cX6_push 26 = .ok (.iload_n 2, 1) := by decide +kernel
theorem dX6_push_27 : decode cX6_push 27 = .ok (.iadd, 1) := by decide +kernel
theorem dX6_push_28 : decode cX6_push 28 = .ok (.istore 4, 2) := by decide +kernel
theorem dX6_push_30 : decode cX6_push 30 = .ok (.iload_n 1, 1) := by decide +kernel
theorem dX6_push_31 : decode cX6_push 31 = .ok (.iconst 1, 1) := by decide +kernel
theorem dX6_push_32 : decode cX6_push 32 = .ok (.if_icmp .ne 17, 3) := by decide +kernel
theorem dX6_push_35 : decode cX6_push 35 = .ok (.aload_n 0, 1) := by decide +kernel
theorem dX6_push_36 : decode cX6_push 36 = .ok (.getfield 15, 3) := by decide +kernel
theorem dX6_push_39 : decode cX6_push 39 = .ok (.aload_n 0, 1) := by decide +kernel
theorem dX6_push_40 : decode cX6_push 40 = .ok (.getfield 36, 3) := by decide +kernel
theorem dX6_push_43 : decode cX6_push 43 = .ok (.iload_n 2, 1) := by decide +kernel
theorem dX6_push_44 : decode cX6_push 44 = .ok (.i2l, 1) := by decide +kernel
theorem dX6_push_45 : decode cX6_push 45 = .ok (.lastore, 1) := by decide +kernel
theorem dX6_push_46 : decode cX6_push 46 = .ok (.goto 28, 3) := by decide +kernel
theorem dX6_push_49 : decode cX6_push 49 = .ok (.aload_n 0, 1) := by decide +kernel
theorem dX6_push_50 : decode cX6_push 50 = .ok (.getfield 15, 3) := by decide +kernel
theorem dX6_push_53 : decode cX6_push 53 = .ok (.aload_n 0, 1) := by decide +kernel
theorem dX6_push_54 : decode cX6_push 54 = .ok (.getfield 36, 3) := by decide +kernel
theorem dX6_push_57 : decode cX6_push 57 = .ok (.iload 4, 2) := by decide +kernel
theorem dX6_push_59 : decode cX6_push 59 = .ok (.aload_n 3, 1) := by decide +kernel
theorem dX6_push_60 : decode cX6_push 60 = .ok (.arraylength, 1) := by decide +kernel
theorem dX6_push_61 : decode cX6_push 61 = .ok (.if_icmp .ge 11, 3) := by decide +kernel
theorem dX6_push_64 : decode cX6_push 64 = .ok (.aload_n 3, 1) := by decide +kernel
theorem dX6_push_65 : decode cX6_push 65 = .ok (.iload 4, 2) := by decide +kernel
theorem dX6_push_67 : decode cX6_push 67 = .ok (.iaload, 1) := by decide +kernel
theorem dX6_push_68 : decode cX6_push 68 = .ok (.i2l, 1) := by decide +kernel
theorem dX6_push_69 : decode cX6_push 69 = .ok (.goto 4, 3) := by decide +kernel
theorem dX6_push_72 : decode cX6_push 72 = .ok (.lconst 0, 1) := by decide +kernel
theorem dX6_push_73 : decode cX6_push 73 = .ok (.lastore, 1) := by decide +kernel
theorem dX6_push_74 : decode cX6_push 74 = .ok (.aload_n 0, 1) := by decide +kernel
theorem dX6_push_75 : decode cX6_push 75 = .ok (.dup, 1) := by decide +kernel
theorem dX6_push_76 : decode cX6_push 76 = .ok (.getfield 36, 3) := by decide +kernel
theorem dX6_push_79 : decode cX6_push 79 = .ok (.iconst 1, 1) := by decide +kernel
theorem dX6_push_80 : decode cX6_push 80 = .ok (.iadd, 1) := by decide +kernel
theorem dX6_push_81 : decode cX6_push 81 = .ok (.putfield 36, 3) := by decide +kernel
theorem dX6_push_84 : decode cX6_push 84 = .ok (.return_, 1) := by decide +kernel
theorem dX6_negate_0 : decode cX6_negate 0 = .ok (.aload_n 0, 1) := by decide +kernel
theorem dX6_negate_1 : decode cX6_negate 1 = .ok (.getfield 36, 3) := by decide +kernel
theorem dX6_negate_4 : decode cX6_negate 4 = .ok (.ifCond .le 26, 3) := by decide +kernel
theorem dX6_negate_7 : decode cX6_negate 7 = .ok (.aload_n 0, 1) := by decide +kernel
theorem dX6_negate_8 : decode cX6_negate 8 = .ok (.getfield 15, 3) := by decide +kernel
theorem dX6_negate_11 : decode cX6_negate 11 = .ok (.aload_n 0, 1) := by decide +kernel
theorem dX6_negate_12 : decode cX6_negate 12 = .ok (.getfield 36, 3) := by decide +kernel
theorem dX6_negate_15 : decode cX6_negate 15 = .ok (.iconst 1, 1) := by decide +kernel
theorem dX6_negate_16 : decode cX6_negate 16 = .ok (.isub, 1) := by decide +kernel
theorem dX6_negate_17 : decode cX6_negate 17 = .ok (.aload_n 0, 1) := by decide +kernel
theorem dX6_negate_18 : decode cX6_negate 18 = .ok (.getfield 15, 3) := by decide +kernel
theorem dX6_negate_21 : decode cX6_negate 21 = .ok (.aload_n 0, 1) := by decide +kernel
theorem dX6_negate_22 : decode cX6_negate 22 = .ok (.getfield 36, 3) := by decide +kernel
theorem dX6_negate_25 : decode cX6_negate 25 = .ok (.iconst 1, 1) := by decide +kernel
theorem dX6_negate_26 : decode cX6_negate 26 = .ok (.isub, 1) := by decide +kernel
theorem dX6_negate_27 : decode cX6_negate 27 = .ok (.laload, 1) := by decide +kernel
theorem dX6_negate_28 : decode cX6_negate 28 = .ok (.lneg, 1) := by decide +kernel
theorem dX6_negate_29 : decode cX6_negate 29 = .ok (.lastore, 1) := by decide +kernel
theorem dX6_negate_30 : decode cX6_negate 30 = .ok (.return_, 1) := by decide +kernel
theorem dX6_combine_0 : decode cX6_combine 0 = .ok (.aload_n 0, 1) := by decide +kernel
theorem dX6_combine_1 : decode cX6_combine 1 = .ok (.getfield 36, 3) := by decide +kernel
theorem dX6_combine_4 : decode cX6_combine 4 = .ok (.iconst 2, 1) := by decide +kernel
theorem dX6_combine_5 : decode cX6_combine 5 = .ok (.if_icmp .ge 4, 3) := by decide +kernel
theorem dX6_combine_8 : decode cX6_combine 8 = .ok (.return_, 1) := by decide +kernel
theorem dX6_combine_9 : decode cX6_combine 9 = .ok (.aload_n 0, 1) := by decide +kernel
theorem dX6_combine_10 : decode cX6_combine 10 = .ok (.dup, 1) := by decide +kernel
theorem dX6_combine_11 : decode cX6_combine 11 = .ok (.getfield 36, 3) := by decide +kernel
theorem dX6_combine_14 : decode cX6_combine 14 = .ok (.iconst 1, 1) := by decide +kernel
theorem dX6_combine_15 : decode cX6_combine 15 = .ok (.isub, 1) := by decide +kernel
theorem dX6_combine_16 : decode cX6_combine 16 = .ok (.putfield 36, 3) := by decide +kernel
theorem dX6_combine_19 : decode cX6_combine 19 = .ok (.aload_n 0, 1) := by decide +kernel
theorem dX6_combine_20 : decode cX6_combine 20 = .ok (.getfield 15, 3) := by decide +kernel
theorem dX6_combine_23 : decode cX6_combine 23 = .ok (.aload_n 0, 1) := by decide +kernel
theorem dX6_combine_24 : decode cX6_combine 24 = .ok (.getfield 36, 3) := by decide +kernel
theorem dX6_combine_27 : decode cX6_combine 27 = .ok (.laload, 1) := by decide +kernel
theorem dX6_combine_28 : decode cX6_combine 28 = .ok (.lstore_n 2, 1) := by decide +kernel
theorem dX6_combine_29 : decode cX6_combine 29 = .ok (.aload_n 0, 1) := by decide +kernel
theorem dX6_combine_30 : decode cX6_combine 30 = .ok (.getfield 15, 3) := by decide +kernel
theorem dX6_combine_33 : decode cX6_combine 33 = .ok (.aload_n 0, 1) := by decide +kernel
theorem dX6_combine_34 : decode cX6_combine 34 = .ok (.getfield 36, 3) := by decide +kernel
theorem dX6_combine_37 : decode cX6_combine 37 = .ok (.iconst 1, 1) := by decide +kernel
theorem dX6_combine_38 : decode cX6_combine 38 = .ok (.isub, 1) := by decide +kernel
theorem dX6_combine_39 : decode cX6_combine 39 = .ok (.laload, 1) := by decide +kernel
theorem dX6_combine_40 : decode cX6_combine 40 = .ok (.lstore 4, 2) := by decide +kernel
theorem dX6_combine_42 : decode cX6_combine 42 = .ok (.iload_n 1, 1) := by decide +kernel
theorem dX6_combine_43 : decode cX6_combine 43 = .ok (.bipush 8, 2) := by decide +kernel
theorem dX6_combine_45 : decode cX6_combine 45 = .ok (.if_icmp .lt 15, 3) := by decide +kernel
theorem dX6_combine_48 : decode cX6_combine 48 = .ok (.lload_n 2, 1) := by decide +kernel
theorem dX6_combine_49 : decode cX6_combine 49 = .ok (.lconst 0, 1) := by decide +kernel
theorem dX6_combine_50 : decode cX6_combine 50 = .ok (.lcmp, 1) := by decide +kernel
theorem dX6_combine_51 : decode cX6_combine 51 = .ok (.ifCond .ne 9, 3) := by decide +kernel
theorem dX6_combine_54 : decode cX6_combine 54 = .ok (.aload_n 0, 1) := by decide +kernel
theorem dX6_combine_55 : decode cX6_combine 55 = .ok (.iconst 1, 1) := by decide +kernel
theorem dX6_combine_56 : decode cX6_combine 56 = .ok (.putfield 33, 3) := by decide +kernel
theorem dX6_combine_59 : decode cX6_combine 59 = .ok (.return_, 1) := by decide +kernel
theorem dX6_combine_60 : decode cX6_combine 60 = .ok (.iload_n 1, 1) := by decide +kernel
theorem dX6_combine_61 : decode cX6_combine 61 = .ok (.lload 4, 2) := by decide +kernel
theorem dX6_combine_63 : decode cX6_combine 63 = .ok (.lload_n 2, 1) := by decide +kernel
theorem dX6_combine_64 : decode cX6_combine 64 = .ok (.invokestatic 51, 3) := by decide +kernel
theorem dX6_combine_67 : decode cX6_combine 67 = .ok (.lstore 6, 2) := by decide +kernel
theorem dX6_combine_69 : decode cX6_combine 69 = .ok (.lload 6, 2) := by decide +kernel
theorem dX6_combine_71 : decode cX6_combine 71 = .ok (.invokestatic 55, 3) := by decide +kernel
theorem dX6_combine_74 : decode cX6_combine 74 = .ok (.ifCond .ne 9, 3) := by decide +kernel
theorem dX6_combine_77 : decode cX6_combine 77 = .ok (.aload_n 0, 1) := by decide +kernel
theorem dX6_combine_78 : decode cX6_combine 78 = .ok (.iconst 2, 1) := by decide +kernel
theorem dX6_combine_79 : decode cX6_combine 79 = .ok (.putfield 33, 3) := by decide +kernel
theorem dX6_combine_82 : decode cX6_combine 82 = .ok (.return_, 1) := by decide +kernel
theorem dX6_combine_83 : decode cX6_combine 83 = .ok (.aload_n 0, 1) := by decide +kernel
theorem dX6_combine_84 : decode cX6_combine 84 = .ok (.getfield 15, 3) := by decide +kernel
theorem dX6_combine_87 : decode cX6_combine 87 = .ok (.aload_n 0, 1) := by decide +kernel
theorem dX6_combine_88 : decode cX6_combine 88 = .ok (.getfield 36, 3) := by decide +kernel
theorem dX6_combine_91 : decode cX6_combine 91 = .ok (.iconst 1, 1) := by decide +kernel
theorem dX6_combine_92 : decode cX6_combine 92 = .ok (.isub, 1) := by decide +kernel
theorem dX6_combine_93 : decode cX6_combine 93 = .ok (.lload 6, 2) := by decide +kernel
theorem dX6_combine_95 : decode cX6_combine 95 = .ok (.lastore, 1) := by decide +kernel
theorem dX6_combine_96 : decode cX6_combine 96 = .ok (.return_, 1) := by decide +kernel
theorem dX6_combined_0 : decode cX6_combined 0 = .ok (.iload_n 0, 1) := by decide +kernel
theorem dX6_combined_1 : decode cX6_combined 1 = .ok (.tableswitch 57 5 8 #[31, 35, 39, 43], 31) := by decide +kernel
theorem dX6_combined_32 : decode cX6_combined 32 = .ok (.lload_n 1, 1) := by decide +kernel
theorem dX6_combined_33 : decode cX6_combined 33 = .ok (.lload_n 3, 1) := by decide +kernel
theorem dX6_combined_34 : decode cX6_combined 34 = .ok (.ladd, 1) := by decide +kernel
theorem dX6_combined_35 : decode cX6_combined 35 = .ok (.lreturn, 1) := by decide +kernel
theorem dX6_combined_36 : decode cX6_combined 36 = .ok (.lload_n 1, 1) := by decide +kernel
theorem dX6_combined_37 : decode cX6_combined 37 = .ok (.lload_n 3, 1) := by decide +kernel
theorem dX6_combined_38 : decode cX6_combined 38 = .ok (.lsub, 1) := by decide +kernel
theorem dX6_combined_39 : decode cX6_combined 39 = .ok (.lreturn, 1) := by decide +kernel
theorem dX6_combined_40 : decode cX6_combined 40 = .ok (.lload_n 1, 1) := by decide +kernel
theorem dX6_combined_41 : decode cX6_combined 41 = .ok (.lload_n 3, 1) := by decide +kernel
theorem dX6_combined_42 : decode cX6_combined 42 = .ok (.lmul, 1) := by decide +kernel
theorem dX6_combined_43 : decode cX6_combined 43 = .ok (.lreturn, 1) := by decide +kernel
theorem dX6_combined_44 : decode cX6_combined 44 = .ok (.lload_n 3, 1) := by decide +kernel
theorem dX6_combined_45 : decode cX6_combined 45 = .ok (.lconst 0, 1) := by decide +kernel
theorem dX6_combined_46 : decode cX6_combined 46 = .ok (.lcmp, 1) := by decide +kernel
theorem dX6_combined_47 : decode cX6_combined 47 = .ok (.ifCond .ne 7, 3) := by decide +kernel
theorem dX6_combined_50 : decode cX6_combined 50 = .ok (.lconst 0, 1) := by decide +kernel
theorem dX6_combined_51 : decode cX6_combined 51 = .ok (.goto 6, 3) := by decide +kernel
theorem dX6_combined_54 : decode cX6_combined 54 = .ok (.lload_n 1, 1) := by decide +kernel
theorem dX6_combined_55 : decode cX6_combined 55 = .ok (.lload_n 3, 1) := by decide +kernel
theorem dX6_combined_56 : decode cX6_combined 56 = .ok (.ldiv, 1) := by decide +kernel
theorem dX6_combined_57 : decode cX6_combined 57 = .ok (.lreturn, 1) := by decide +kernel
theorem dX6_combined_58 : decode cX6_combined 58 = .ok (.lload_n 3, 1) := by decide +kernel
theorem dX6_combined_59 : decode cX6_combined 59 = .ok (.lconst 0, 1) := by decide +kernel
theorem dX6_combined_60 : decode cX6_combined 60 = .ok (.lcmp, 1) := by decide +kernel
theorem dX6_combined_61 : decode cX6_combined 61 = .ok (.ifCond .ne 7, 3) := by decide +kernel
theorem dX6_combined_64 : decode cX6_combined 64 = .ok (.lconst 0, 1) := by decide +kernel
theorem dX6_combined_65 : decode cX6_combined 65 = .ok (.goto 6, 3) := by decide +kernel
theorem dX6_combined_68 : decode cX6_combined 68 = .ok (.lload_n 1, 1) := by decide +kernel
theorem dX6_combined_69 : decode cX6_combined 69 = .ok (.lload_n 3, 1) := by decide +kernel
theorem dX6_combined_70 : decode cX6_combined 70 = .ok (.lrem, 1) := by decide +kernel
theorem dX6_combined_71 : decode cX6_combined 71 = .ok (.lreturn, 1) := by decide +kernel
theorem dX6_isInRange_0 : decode cX6_isInRange 0 = .ok (.lload_n 0, 1) := by decide +kernel
theorem dX6_isInRange_1 : decode cX6_isInRange 1 = .ok (.ldc2_w 59, 3) := by decide +kernel
theorem dX6_isInRange_4 : decode cX6_isInRange 4 = .ok (.lcmp, 1) := by decide +kernel
theorem dX6_isInRange_5 : decode cX6_isInRange 5 = .ok (.ifCond .lt 15, 3) := by decide +kernel
theorem dX6_isInRange_8 : decode cX6_isInRange 8 = .ok (.lload_n 0, 1) := by decide +kernel
theorem dX6_isInRange_9 : decode cX6_isInRange 9 = .ok (.ldc2_w 61, 3) := by decide +kernel
theorem dX6_isInRange_12 : decode cX6_isInRange 12 = .ok (.lcmp, 1) := by decide +kernel
theorem dX6_isInRange_13 : decode cX6_isInRange 13 = .ok (.ifCond .gt 7, 3) := by decide +kernel
theorem dX6_isInRange_16 : decode cX6_isInRange 16 = .ok (.iconst 1, 1) := by decide +kernel
theorem dX6_isInRange_17 : decode cX6_isInRange 17 = .ok (.goto 4, 3) := by decide +kernel
theorem dX6_isInRange_20 : decode cX6_isInRange 20 = .ok (.iconst 0, 1) := by decide +kernel
theorem dX6_isInRange_21 : decode cX6_isInRange 21 = .ok (.ireturn, 1) := by decide +kernel
theorem dX6_isSo_0 : decode cX6_isSo 0 = .ok (.iload_n 0, 1) := by decide +kernel
theorem dX6_isSo_1 : decode cX6_isSo 1 = .ok (.tableswitch 90 7 11 #[35, 46, 57, 68, 79], 35) := by decide +kernel
theorem dX6_isSo_36 : decode cX6_isSo 36 = .ok (.iload_n 1, 1) := by decide +kernel
theorem dX6_isSo_37 : decode cX6_isSo 37 = .ok (.iload_n 2, 1) := by decide +kernel
theorem dX6_isSo_38 : decode cX6_isSo 38 = .ok (.if_icmp .ne 7, 3) := by decide +kernel
theorem dX6_isSo_41 : decode cX6_isSo 41 = .ok (.iconst 1, 1) := by decide +kernel
theorem dX6_isSo_42 : decode cX6_isSo 42 = .ok (.goto 4, 3) := by decide +kernel
theorem dX6_isSo_45 : decode cX6_isSo 45 = .ok (.iconst 0, 1) := by decide +kernel
theorem dX6_isSo_46 : decode cX6_isSo 46 = .ok (.ireturn, 1) := by decide +kernel
theorem dX6_isSo_47 : decode cX6_isSo 47 = .ok (.iload_n 1, 1) := by decide +kernel
theorem dX6_isSo_48 : decode cX6_isSo 48 = .ok (.iload_n 2, 1) := by decide +kernel
theorem dX6_isSo_49 : decode cX6_isSo 49 = .ok (.if_icmp .eq 7, 3) := by decide +kernel
theorem dX6_isSo_52 : decode cX6_isSo 52 = .ok (.iconst 1, 1) := by decide +kernel
theorem dX6_isSo_53 : decode cX6_isSo 53 = .ok (.goto 4, 3) := by decide +kernel
theorem dX6_isSo_56 : decode cX6_isSo 56 = .ok (.iconst 0, 1) := by decide +kernel
theorem dX6_isSo_57 : decode cX6_isSo 57 = .ok (.ireturn, 1) := by decide +kernel
theorem dX6_isSo_58 : decode cX6_isSo 58 = .ok (.iload_n 1, 1) := by decide +kernel
theorem dX6_isSo_59 : decode cX6_isSo 59 = .ok (.iload_n 2, 1) := by decide +kernel
theorem dX6_isSo_60 : decode cX6_isSo 60 = .ok (.if_icmp .ge 7, 3) := by decide +kernel
theorem dX6_isSo_63 : decode cX6_isSo 63 = .ok (.iconst 1, 1) := by decide +kernel
theorem dX6_isSo_64 : decode cX6_isSo 64 = .ok (.goto 4, 3) := by decide +kernel
theorem dX6_isSo_67 : decode cX6_isSo 67 = .ok (.iconst 0, 1) := by decide +kernel
theorem dX6_isSo_68 : decode cX6_isSo 68 = .ok (.ireturn, 1) := by decide +kernel
theorem dX6_isSo_69 : decode cX6_isSo 69 = .ok (.iload_n 1, 1) := by decide +kernel
theorem dX6_isSo_70 : decode cX6_isSo 70 = .ok (.iload_n 2, 1) := by decide +kernel
theorem dX6_isSo_71 : decode cX6_isSo 71 = .ok (.if_icmp .gt 7, 3) := by decide +kernel
theorem dX6_isSo_74 : decode cX6_isSo 74 = .ok (.iconst 1, 1) := by decide +kernel
theorem dX6_isSo_75 : decode cX6_isSo 75 = .ok (.goto 4, 3) := by decide +kernel
theorem dX6_isSo_78 : decode cX6_isSo 78 = .ok (.iconst 0, 1) := by decide +kernel
theorem dX6_isSo_79 : decode cX6_isSo 79 = .ok (.ireturn, 1) := by decide +kernel
theorem dX6_isSo_80 : decode cX6_isSo 80 = .ok (.iload_n 1, 1) := by decide +kernel
theorem dX6_isSo_81 : decode cX6_isSo 81 = .ok (.iload_n 2, 1) := by decide +kernel
theorem dX6_isSo_82 : decode cX6_isSo 82 = .ok (.if_icmp .le 7, 3) := by decide +kernel
theorem dX6_isSo_85 : decode cX6_isSo 85 = .ok (.iconst 1, 1) := by decide +kernel
theorem dX6_isSo_86 : decode cX6_isSo 86 = .ok (.goto 4, 3) := by decide +kernel
theorem dX6_isSo_89 : decode cX6_isSo 89 = .ok (.iconst 0, 1) := by decide +kernel
theorem dX6_isSo_90 : decode cX6_isSo 90 = .ok (.ireturn, 1) := by decide +kernel
theorem dX6_isSo_91 : decode cX6_isSo 91 = .ok (.iload_n 1, 1) := by decide +kernel
theorem dX6_isSo_92 : decode cX6_isSo 92 = .ok (.iload_n 2, 1) := by decide +kernel
theorem dX6_isSo_93 : decode cX6_isSo 93 = .ok (.if_icmp .lt 7, 3) := by decide +kernel
theorem dX6_isSo_96 : decode cX6_isSo 96 = .ok (.iconst 1, 1) := by decide +kernel
theorem dX6_isSo_97 : decode cX6_isSo 97 = .ok (.goto 4, 3) := by decide +kernel
theorem dX6_isSo_100 : decode cX6_isSo 100 = .ok (.iconst 0, 1) := by decide +kernel
theorem dX6_isSo_101 : decode cX6_isSo 101 = .ok (.ireturn, 1) := by decide +kernel
theorem dX7_init_0 : decode cX7_init 0 = .ok (.aload_n 0, 1) := by decide +kernel
theorem dX7_init_1 : decode cX7_init 1 = .ok (.invokespecial 3, 3) := by decide +kernel
theorem dX7_init_4 : decode cX7_init 4 = .ok (.aload_n 0, 1) := by decide +kernel
theorem dX7_init_5 : decode cX7_init 5 = .ok (.sipush 801, 3) := by decide +kernel
theorem dX7_init_8 : decode cX7_init 8 = .ok (.newarray .int, 2) := by decide +kernel
theorem dX7_init_10 : decode cX7_init 10 = .ok (.putfield 9, 3) := by decide +kernel
theorem dX7_init_13 : decode cX7_init 13 = .ok (.aload_n 0, 1) := by decide +kernel
theorem dX7_init_14 : decode cX7_init 14 = .ok (.sipush 801, 3) := by decide +kernel
theorem dX7_init_17 : decode cX7_init 17 = .ok (.newarray .int, 2) := by decide +kernel
theorem dX7_init_19 : decode cX7_init 19 = .ok (.putfield 15, 3) := by decide +kernel
theorem dX7_init_22 : decode cX7_init 22 = .ok (.aload_n 0, 1) := by decide +kernel
theorem dX7_init_23 : decode cX7_init 23 = .ok (.sipush 801, 3) := by decide +kernel
theorem dX7_init_26 : decode cX7_init 26 = .ok (.newarray .long, 2) := by decide +kernel
theorem dX7_init_28 : decode cX7_init 28 = .ok (.putfield 18, 3) := by decide +kernel
theorem dX7_init_31 : decode cX7_init 31 = .ok (.aload_n 0, 1) := by decide +kernel
theorem dX7_init_32 : decode cX7_init 32 = .ok (.aload_n 1, 1) := by decide +kernel
theorem dX7_init_33 : decode cX7_init 33 = .ok (.putfield 22, 3) := by decide +kernel
theorem dX7_init_36 : decode cX7_init 36 = .ok (.aload_n 0, 1) := by decide +kernel
theorem dX7_init_37 : decode cX7_init 37 = .ok (.bipush 33, 2) := by decide +kernel
theorem dX7_init_39 : decode cX7_init 39 = .ok (.newarray .long, 2) := by decide +kernel
theorem dX7_init_41 : decode cX7_init 41 = .ok (.putfield 26, 3) := by decide +kernel
theorem dX7_init_44 : decode cX7_init 44 = .ok (.iconst 0, 1) := by decide +kernel
theorem dX7_init_45 : decode cX7_init 45 = .ok (.istore_n 2, 1) := by decide +kernel
theorem dX7_init_46 : decode cX7_init 46 = .ok (.iconst 0, 1) := by decide +kernel
theorem dX7_init_47 : decode cX7_init 47 = .ok (.istore_n 3, 1) := by decide +kernel
theorem dX7_init_48 : decode cX7_init 48 = .ok (.iload_n 3, 1) := by decide +kernel
theorem dX7_init_49 : decode cX7_init 49 = .ok (.ldc 29, 2) := by decide +kernel
theorem dX7_init_51 : decode cX7_init 51 = .ok (.invokevirtual 31, 3) := by decide +kernel
theorem dX7_init_54 : decode cX7_init 54 = .ok (.if_icmp .ge 53, 3) := by decide +kernel
theorem dX7_init_57 : decode cX7_init 57 = .ok (.iload_n 2, 1) := by decide +kernel
theorem dX7_init_58 : decode cX7_init 58 = .ok (.bipush 33, 2) := by decide +kernel
theorem dX7_init_60 : decode cX7_init 60 = .ok (.if_icmp .ge 47, 3) := by decide +kernel
theorem dX7_init_63 : decode cX7_init 63 = .ok (.ldc 29, 2) := by decide +kernel
theorem dX7_init_65 : decode cX7_init 65 = .ok (.iload_n 3, 1) := by decide +kernel
theorem dX7_init_66 : decode cX7_init 66 = .ok (.invokevirtual 37, 3) := by decide +kernel
theorem dX7_init_69 : decode cX7_init 69 = .ok (.bipush 32, 2) := by decide +kernel
theorem dX7_init_71 : decode cX7_init 71 = .ok (.if_icmp .ne 9, 3) := by decide +kernel
theorem dX7_init_74 : decode cX7_init 74 = .ok (.iinc 2 1, 3) := by decide +kernel
theorem dX7_init_77 : decode cX7_init 77 = .ok (.goto 24, 3) := by decide +kernel
theorem dX7_init_80 : decode cX7_init 80 = .ok (.aload_n 0, 1) := by decide +kernel
theorem dX7_init_81 : decode cX7_init 81 = .ok (.getfield 26, 3) := by decide +kernel
theorem dX7_init_84 : decode cX7_init 84 = .ok (.iload_n 2, 1) := by decide +kernel
theorem dX7_init_85 : decode cX7_init 85 = .ok (.aload_n 0, 1) := by decide +kernel
theorem dX7_init_86 : decode cX7_init 86 = .ok (.getfield 26, 3) := by decide +kernel
theorem dX7_init_89 : decode cX7_init 89 = .ok (.iload_n 2, 1) := by decide +kernel
theorem dX7_init_90 : decode cX7_init 90 = .ok (.laload, 1) := by decide +kernel
theorem dX7_init_91 : decode cX7_init 91 = .ok (.ldc 29, 2) := by decide +kernel
theorem dX7_init_93 : decode cX7_init 93 = .ok (.iload_n 3, 1) := by decide +kernel
theorem dX7_init_94 : decode cX7_init 94 = .ok (.invokevirtual 37, 3) := by decide +kernel
theorem dX7_init_97 : decode cX7_init 97 = .ok (.invokestatic 41, 3) := by decide +kernel
theorem dX7_init_100 : decode cX7_init 100 = .ok (.lastore, 1) := by decide +kernel
theorem dX7_init_101 : decode cX7_init 101 = .ok (.iinc 3 1, 3) := by decide +kernel
theorem dX7_init_104 : decode cX7_init 104 = .ok (.goto (-56), 3) := by decide +kernel
theorem dX7_init_107 : decode cX7_init 107 = .ok (.return_, 1) := by decide +kernel
theorem dX7_begin_0 : decode cX7_begin 0 = .ok (.aload_n 0, 1) := by decide +kernel
theorem dX7_begin_1 : decode cX7_begin 1 = .ok (.iload_n 1, 1) := by decide +kernel
theorem dX7_begin_2 : decode cX7_begin 2 = .ok (.aload_n 0, 1) := by decide +kernel
theorem dX7_begin_3 : decode cX7_begin 3 = .ok (.getfield 22, 3) := by decide +kernel
theorem dX7_begin_6 : decode cX7_begin 6 = .ok (.arraylength, 1) := by decide +kernel
theorem dX7_begin_7 : decode cX7_begin 7 = .ok (.invokestatic 45, 3) := by decide +kernel
theorem dX7_begin_10 : decode cX7_begin 10 = .ok (.putfield 51, 3) := by decide +kernel
theorem dX7_begin_13 : decode cX7_begin 13 = .ok (.aload_n 0, 1) := by decide +kernel
theorem dX7_begin_14 : decode cX7_begin 14 = .ok (.iconst 0, 1) := by decide +kernel
theorem dX7_begin_15 : decode cX7_begin 15 = .ok (.putfield 54, 3) := by decide +kernel
theorem dX7_begin_18 : decode cX7_begin 18 = .ok (.iconst (-1), 1) := by decide +kernel
theorem dX7_begin_19 : decode cX7_begin 19 = .ok (.istore_n 2, 1) := by decide +kernel
theorem dX7_begin_20 : decode cX7_begin 20 = .ok (.iconst 0, 1) := by decide +kernel
theorem dX7_begin_21 : decode cX7_begin 21 = .ok (.istore_n 3, 1) := by decide +kernel
theorem dX7_begin_22 : decode cX7_begin 22 = .ok (.iload_n 3, 1) := by decide +kernel
theorem dX7_begin_23 : decode cX7_begin 23 = .ok (.aload_n 0, 1) := by decide +kernel
theorem dX7_begin_24 : decode cX7_begin 24 = .ok (.getfield 9, 3) := by decide +kernel
theorem dX7_begin_27 : decode cX7_begin 27 = .ok (.arraylength, 1) := by decide +kernel
theorem dX7_begin_28 : decode cX7_begin 28 = .ok (.if_icmp .ge 24, 3) := by decide +kernel
theorem dX7_begin_31 : decode cX7_begin 31 = .ok (.iload_n 2, 1) := by decide +kernel
theorem dX7_begin_32 : decode cX7_begin 32 = .ok (.iconst 1, 1) := by decide +kernel
theorem dX7_begin_33 : decode cX7_begin 33 = .ok (.if_icmp .eq 19, 3) := by decide +kernel
theorem dX7_begin_36 : decode cX7_begin 36 = .ok (.iload_n 2, 1) := by decide +kernel
theorem dX7_begin_37 : decode cX7_begin 37 = .ok (.ifCond .eq 15, 3) := by decide +kernel
theorem dX7_begin_40 : decode cX7_begin 40 = .ok (.aload_n 0, 1) := by decide +kernel
theorem dX7_begin_41 : decode cX7_begin 41 = .ok (.iload_n 3, 1) := by decide +kernel
theorem dX7_begin_42 : decode cX7_begin 42 = .ok (.invokevirtual 57, 3) := by decide +kernel
theorem dX7_begin_45 : decode cX7_begin 45 = .ok (.istore_n 2, 1) := by decide +kernel
theorem dX7_begin_46 : decode cX7_begin 46 = .ok (.iinc 3 1, 3) := by decide +kernel
theorem dX7_begin_49 : decode cX7_begin 49 = .ok (.goto (-27), 3) := by decide +kernel
theorem dX7_begin_52 : decode cX7_begin 52 = .ok (.aload_n 0, 1) := by decide +kernel
theorem dX7_begin_53 : decode cX7_begin 53 = .ok (.iconst 0, 1) := by decide +kernel
theorem dX7_begin_54 : decode cX7_begin 54 = .ok (.putfield 61, 3) := by decide +kernel
theorem dX7_begin_57 : decode cX7_begin 57 = .ok (.aload_n 0, 1) := by decide +kernel
theorem dX7_begin_58 : decode cX7_begin 58 = .ok (.iconst 0, 1) := by decide +kernel
theorem dX7_begin_59 : decode cX7_begin 59 = .ok (.putfield 64, 3) := by decide +kernel
theorem dX7_begin_62 : decode cX7_begin 62 = .ok (.aload_n 0, 1) := by decide +kernel
theorem dX7_begin_63 : decode cX7_begin 63 = .ok (.iconst 0, 1) := by decide +kernel
theorem dX7_begin_64 : decode cX7_begin 64 = .ok (.putfield 67, 3) := by decide +kernel
theorem dX7_begin_67 : decode cX7_begin 67 = .ok (.aload_n 0, 1) := by decide +kernel
theorem dX7_begin_68 : decode cX7_begin 68 = .ok (.iconst 0, 1) := by decide +kernel
theorem dX7_begin_69 : decode cX7_begin 69 = .ok (.putfield 70, 3) := by decide +kernel
theorem dX7_begin_72 : decode cX7_begin 72 = .ok (.aload_n 0, 1) := by decide +kernel
theorem dX7_begin_73 : decode cX7_begin 73 = .ok (.invokevirtual 73, 3) := by decide +kernel
theorem dX7_begin_76 : decode cX7_begin 76 = .ok (.return_, 1) := by decide +kernel
theorem dX7_cut_0 : decode cX7_cut 0 = .ok (.aload_n 0, 1) := by decide +kernel
theorem dX7_cut_1 : decode cX7_cut 1 = .ok (.getfield 54, 3) := by decide +kernel
theorem dX7_cut_4 : decode cX7_cut 4 = .ok (.aload_n 0, 1) := by decide +kernel
theorem dX7_cut_5 : decode cX7_cut 5 = .ok (.getfield 51, 3) := by decide +kernel
theorem dX7_cut_8 : decode cX7_cut 8 = .ok (.if_icmp .ge 42, 3) := by decide +kernel
theorem dX7_cut_11 : decode cX7_cut 11 = .ok (.aload_n 0, 1) := by decide +kernel
theorem dX7_cut_12 : decode cX7_cut 12 = .ok (.aload_n 0, 1) := by decide +kernel
theorem dX7_cut_13 : decode cX7_cut 13 = .ok (.getfield 54, 3) := by decide +kernel
theorem dX7_cut_16 : decode cX7_cut 16 = .ok (.invokevirtual 76, 3) := by decide +kernel
theorem dX7_cut_19 : decode cX7_cut 19 = .ok (.bipush 32, 2) := by decide +kernel
theorem dX7_cut_21 : decode cX7_cut 21 = .ok (.if_icmp .eq 16, 3) := by decide +kernel
theorem dX7_cut_24 : decode cX7_cut 24 = .ok (.aload_n 0, 1) := by decide +kernel
theorem dX7_cut_25 : decode cX7_cut 25 = .ok (.aload_n 0, 1) := by decide +kernel
theorem dX7_cut_26 : decode cX7_cut 26 = .ok (.getfield 54, 3) := by decide +kernel
theorem dX7_cut_29 : decode cX7_cut 29 = .ok (.invokevirtual 76, 3) := by decide +kernel
theorem dX7_cut_32 : decode cX7_cut 32 = .ok (.bipush 10, 2) := by decide +kernel
theorem dX7_cut_34 : decode cX7_cut 34 = .ok (.if_icmp .ne 16, 3) := by decide +kernel
theorem dX7_cut_37 : decode cX7_cut 37 = .ok (.aload_n 0, 1) := by decide +kernel
theorem dX7_cut_38 : decode cX7_cut 38 = .ok (.dup, 1) := by decide +kernel
theorem dX7_cut_39 : decode cX7_cut 39 = .ok (.getfield 54, 3) := by decide +kernel
theorem dX7_cut_42 : decode cX7_cut 42 = .ok (.iconst 1, 1) := by decide +kernel
theorem dX7_cut_43 : decode cX7_cut 43 = .ok (.iadd, 1) := by decide +kernel
theorem dX7_cut_44 : decode cX7_cut 44 = .ok (.putfield 54, 3) := by decide +kernel
theorem dX7_cut_47 : decode cX7_cut 47 = .ok (.goto (-47), 3) := by decide +kernel
theorem dX7_cut_50 : decode cX7_cut 50 = .ok (.aload_n 0, 1) := by decide +kernel
theorem dX7_cut_51 : decode cX7_cut 51 = .ok (.getfield 15, 3) := by decide +kernel
theorem dX7_cut_54 : decode cX7_cut 54 = .ok (.iload_n 1, 1) := by decide +kernel
theorem dX7_cut_55 : decode cX7_cut 55 = .ok (.aload_n 0, 1) := by decide +kernel
theorem dX7_cut_56 : decode cX7_cut 56 = .ok (.getfield 54, 3) := by decide +kernel
theorem dX7_cut_59 : decode cX7_cut 59 = .ok (.iastore, 1) := by decide +kernel
theorem dX7_cut_60 : decode cX7_cut 60 = .ok (.aload_n 0, 1) := by decide +kernel
theorem dX7_cut_61 : decode cX7_cut 61 = .ok (.aload_n 0, 1) := by decide +kernel
theorem dX7_cut_62 : decode cX7_cut 62 = .ok (.getfield 54, 3) := by decide +kernel
theorem dX7_cut_65 : decode cX7_cut 65 = .ok (.invokevirtual 76, 3) := by decide +kernel
theorem dX7_cut_68 : decode cX7_cut 68 = .ok (.istore_n 2, 1) := by decide +kernel
theorem dX7_cut_69 : decode cX7_cut 69 = .ok (.aload_n 0, 1) := by decide +kernel
theorem dX7_cut_70 : decode cX7_cut 70 = .ok (.getfield 54, 3) := by decide +kernel
theorem dX7_cut_73 : decode cX7_cut 73 = .ok (.aload_n 0, 1) := by decide +kernel
theorem dX7_cut_74 : decode cX7_cut 74 = .ok (.getfield 51, 3) := by decide +kernel
theorem dX7_cut_77 : decode cX7_cut 77 = .ok (.if_icmp .lt 13, 3) := by decide +kernel
theorem dX7_cut_80 : decode cX7_cut 80 = .ok (.aload_n 0, 1) := by decide +kernel
theorem dX7_cut_81 : decode cX7_cut 81 = .ok (.getfield 9, 3) := by decide +kernel
theorem dX7_cut_84 : decode cX7_cut 84 = .ok (.iload_n 1, 1) := by decide +kernel
theorem dX7_cut_85 : decode cX7_cut 85 = .ok (.iconst 1, 1) := by decide +kernel
theorem dX7_cut_86 : decode cX7_cut 86 = .ok (.iastore, 1) := by decide +kernel
theorem dX7_cut_87 : decode cX7_cut 87 = .ok (.goto 44, 3) := by decide +kernel
theorem dX7_cut_90 : decode cX7_cut 90 = .ok (.iload_n 2, 1) := by decide +kernel
theorem dX7_cut_91 : decode cX7_cut 91 = .ok (.invokestatic 79, 3) := by decide +kernel
theorem dX7_cut_94 : decode cX7_cut 94 = .ok (.ifCond .eq 11, 3) := by decide +kernel
theorem dX7_cut_97 : decode cX7_cut 97 = .ok (.aload_n 0, 1) := by decide +kernel
theorem dX7_cut_98 : decode cX7_cut 98 = .ok (.iload_n 1, 1) := by decide +kernel
theorem dX7_cut_99 : decode cX7_cut 99 = .ok (.invokevirtual 83, 3) := by decide +kernel
theorem dX7_cut_102 : decode cX7_cut 102 = .ok (.goto 29, 3) := by decide +kernel
theorem dX7_cut_105 : decode cX7_cut 105 = .ok (.iload_n 2, 1) := by decide +kernel
theorem dX7_cut_106 : decode cX7_cut 106 = .ok (.invokestatic 87, 3) := by decide +kernel
theorem dX7_cut_109 : decode cX7_cut 109 = .ok (.ifCond .eq 11, 3) := by decide +kernel
theorem dX7_cut_112 : decode cX7_cut 112 = .ok (.aload_n 0, 1) := by decide +kernel
theorem dX7_cut_113 : decode cX7_cut 113 = .ok (.iload_n 1, 1) := by decide +kernel
theorem dX7_cut_114 : decode cX7_cut 114 = .ok (.invokevirtual 90, 3) := by decide +kernel
theorem dX7_cut_117 : decode cX7_cut 117 = .ok (.goto 14, 3) := by decide +kernel
theorem dX7_cut_120 : decode cX7_cut 120 = .ok (.aload_n 0, 1) := by decide +kernel
theorem dX7_cut_121 : decode cX7_cut 121 = .ok (.getfield 9, 3) := by decide +kernel
theorem dX7_cut_124 : decode cX7_cut 124 = .ok (.iload_n 1, 1) := by decide +kernel
theorem dX7_cut_125 : decode cX7_cut 125 = .ok (.aload_n 0, 1) := by decide +kernel
theorem dX7_cut_126 : decode cX7_cut 126 = .ok (.iload_n 2, 1) := by decide +kernel
theorem dX7_cut_127 : decode cX7_cut 127 = .ok (.invokevirtual 93, 3) := by decide +kernel
theorem dX7_cut_130 : decode cX7_cut 130 = .ok (.iastore, 1) := by decide +kernel
theorem dX7_cut_131 : decode cX7_cut 131 = .ok (.aload_n 0, 1) := by decide +kernel
theorem dX7_cut_132 : decode cX7_cut 132 = .ok (.getfield 9, 3) := by decide +kernel
theorem dX7_cut_135 : decode cX7_cut 135 = .ok (.iload_n 1, 1) := by decide +kernel
theorem dX7_cut_136 : decode cX7_cut 136 = .ok (.iaload, 1) := by decide +kernel
theorem dX7_cut_137 : decode cX7_cut 137 = .ok (.ireturn, 1) := by decide +kernel
theorem dX7_advance_0 : decode cX7_advance 0 = .ok (.aload_n 0, 1) := by decide +kernel
theorem dX7_advance_1 : decode cX7_advance 1 = .ok (.getfield 67, 3) := by decide +kernel
theorem dX7_advance_4 : decode cX7_advance 4 = .ok (.ifCond .ne 15, 3) := by decide +kernel
theorem dX7_advance_7 : decode cX7_advance 7 = .ok (.aload_n 0, 1) := by decide +kernel
theorem dX7_advance_8 : decode cX7_advance 8 = .ok (.getfield 61, 3) := by decide +kernel
theorem dX7_advance_11 : decode cX7_advance 11 = .ok (.aload_n 0, 1) := by decide +kernel
theorem dX7_advance_12 : decode cX7_advance 12 = .ok (.getfield 9, 3) := by decide +kernel
theorem dX7_advance_15 : decode cX7_advance 15 = .ok (.arraylength, 1) := by decide +kernel
theorem dX7_advance_16 : decode cX7_advance 16 = .ok (.if_icmp .lt 4, 3) := by decide +kernel
theorem dX7_advance_19 : decode cX7_advance 19 = .ok (.return_, 1) := by decide +kernel
theorem dX7_advance_20 : decode cX7_advance 20 = .ok (.aload_n 0, 1) := by decide +kernel
theorem dX7_advance_21 : decode cX7_advance 21 = .ok (.aload_n 0, 1) := by decide +kernel
theorem dX7_advance_22 : decode cX7_advance 22 = .ok (.getfield 9, 3) := by decide +kernel
theorem dX7_advance_25 : decode cX7_advance 25 = .ok (.aload_n 0, 1) := by decide +kernel
theorem dX7_advance_26 : decode cX7_advance 26 = .ok (.getfield 61, 3) := by decide +kernel
theorem dX7_advance_29 : decode cX7_advance 29 = .ok (.iaload, 1) := by decide +kernel
theorem dX7_advance_30 : decode cX7_advance 30 = .ok (.putfield 96, 3) := by decide +kernel
theorem dX7_advance_33 : decode cX7_advance 33 = .ok (.aload_n 0, 1) := by decide +kernel
theorem dX7_advance_34 : decode cX7_advance 34 = .ok (.aload_n 0, 1) := by decide +kernel
theorem dX7_advance_35 : decode cX7_advance 35 = .ok (.getfield 15, 3) := by decide +kernel
theorem dX7_advance_38 : decode cX7_advance 38 = .ok (.aload_n 0, 1) := by decide +kernel
theorem dX7_advance_39 : decode cX7_advance 39 = .ok (.getfield 61, 3) := by decide +kernel
theorem dX7_advance_42 : decode cX7_advance 42 = .ok (.iaload, 1) := by decide +kernel
theorem dX7_advance_43 : decode cX7_advance 43 = .ok (.putfield 99, 3) := by decide +kernel
theorem dX7_advance_46 : decode cX7_advance 46 = .ok (.aload_n 0, 1) := by decide +kernel
theorem dX7_advance_47 : decode cX7_advance 47 = .ok (.aload_n 0, 1) := by decide +kernel
theorem dX7_advance_48 : decode cX7_advance 48 = .ok (.getfield 18, 3) := by decide +kernel
theorem dX7_advance_51 : decode cX7_advance 51 = .ok (.aload_n 0, 1) := by decide +kernel
theorem dX7_advance_52 : decode cX7_advance 52 = .ok (.getfield 61, 3) := by decide +kernel
theorem dX7_advance_55 : decode cX7_advance 55 = .ok (.laload, 1) := by decide +kernel
theorem dX7_advance_56 : decode cX7_advance 56 = .ok (.putfield 102, 3) := by decide +kernel
theorem dX7_advance_59 : decode cX7_advance 59 = .ok (.aload_n 0, 1) := by decide +kernel
theorem dX7_advance_60 : decode cX7_advance 60 = .ok (.dup, 1) := by decide +kernel
theorem dX7_advance_61 : decode cX7_advance 61 = .ok (.getfield 61, 3) := by decide +kernel
theorem dX7_advance_64 : decode cX7_advance 64 = .ok (.iconst 1, 1) := by decide +kernel
theorem dX7_advance_65 : decode cX7_advance 65 = .ok (.iadd, 1) := by decide +kernel
theorem dX7_advance_66 : decode cX7_advance 66 = .ok (.putfield 61, 3) := by decide +kernel
theorem dX7_advance_69 : decode cX7_advance 69 = .ok (.aload_n 0, 1) := by decide +kernel
theorem dX7_advance_70 : decode cX7_advance 70 = .ok (.getfield 96, 3) := by decide +kernel
theorem dX7_advance_73 : decode cX7_advance 73 = .ok (.ifCond .ne 16, 3) := by decide +kernel
theorem dX7_advance_76 : decode cX7_advance 76 = .ok (.aload_n 0, 1) := by decide +kernel
theorem dX7_advance_77 : decode cX7_advance 77 = .ok (.iconst 1, 1) := by decide +kernel
theorem dX7_advance_78 : decode cX7_advance 78 = .ok (.putfield 67, 3) := by decide +kernel
theorem dX7_advance_81 : decode cX7_advance 81 = .ok (.aload_n 0, 1) := by decide +kernel
theorem dX7_advance_82 : decode cX7_advance 82 = .ok (.aload_n 0, 1) := by decide +kernel
theorem dX7_advance_83 : decode cX7_advance 83 = .ok (.getfield 99, 3) := by decide +kernel
theorem dX7_advance_86 : decode cX7_advance 86 = .ok (.putfield 70, 3) := by decide +kernel
theorem dX7_advance_89 : decode cX7_advance 89 = .ok (.return_, 1) := by decide +kernel
theorem dX7_accept_0 : decode cX7_accept 0 = .ok (.aload_n 0, 1) := by decide +kernel
theorem dX7_accept_1 : decode cX7_accept 1 = .ok (.getfield 96, 3) := by decide +kernel
theorem dX7_accept_4 : decode cX7_accept 4 = .ok (.iload_n 1, 1) := by decide +kernel
theorem dX7_accept_5 : decode cX7_accept 5 = .ok (.if_icmp .eq 5, 3) := by decide +kernel
theorem dX7_accept_8 : decode cX7_accept 8 = .ok (.iconst 0, 1) := by decide +kernel
theorem dX7_accept_9 : decode cX7_accept 9 = .ok (.ireturn, 1) := by decide +kernel
theorem dX7_accept_10 : decode cX7_accept 10 = .ok (.aload_n 0, 1) := by decide +kernel
theorem dX7_accept_11 : decode cX7_accept 11 = .ok (.invokevirtual 73, 3) := by decide +kernel
theorem dX7_accept_14 : decode cX7_accept 14 = .ok (.iconst 1, 1) := by decide +kernel
theorem dX7_accept_15 : decode cX7_accept 15 = .ok (.ireturn, 1) := by decide +kernel
theorem dX7_expect_0 : decode cX7_expect 0 = .ok (.aload_n 0, 1) := by decide +kernel
theorem dX7_expect_1 : decode cX7_expect 1 = .ok (.getfield 96, 3) := by decide +kernel
theorem dX7_expect_4 : decode cX7_expect 4 = .ok (.iload_n 1, 1) := by decide +kernel
theorem dX7_expect_5 : decode cX7_expect 5 = .ok (.if_icmp .ne 10, 3) := by decide +kernel
theorem dX7_expect_8 : decode cX7_expect 8 = .ok (.aload_n 0, 1) := by decide +kernel
theorem dX7_expect_9 : decode cX7_expect 9 = .ok (.invokevirtual 73, 3) := by decide +kernel
theorem dX7_expect_12 : decode cX7_expect 12 = .ok (.goto 8, 3) := by decide +kernel
theorem dX7_expect_15 : decode cX7_expect 15 = .ok (.aload_n 0, 1) := by decide +kernel
theorem dX7_expect_16 : decode cX7_expect 16 = .ok (.iconst 2, 1) := by decide +kernel
theorem dX7_expect_17 : decode cX7_expect 17 = .ok (.invokevirtual 106, 3) := by decide +kernel
theorem dX7_expect_20 : decode cX7_expect 20 = .ok (.return_, 1) := by decide +kernel
theorem dX7_fail_0 : decode cX7_fail 0 = .ok (.aload_n 0, 1) := by decide +kernel
theorem dX7_fail_1 : decode cX7_fail 1 = .ok (.getfield 67, 3) := by decide +kernel
theorem dX7_fail_4 : decode cX7_fail 4 = .ok (.ifCond .ne 16, 3) := by decide +kernel
theorem dX7_fail_7 : decode cX7_fail 7 = .ok (.aload_n 0, 1) := by decide +kernel
theorem dX7_fail_8 : decode cX7_fail 8 = .ok (.iload_n 1, 1) := by decide +kernel
theorem dX7_fail_9 : decode cX7_fail 9 = .ok (.putfield 67, 3) := by decide +kernel
theorem dX7_fail_12 : decode cX7_fail 12 = .ok (.aload_n 0, 1) := by decide +kernel
theorem dX7_fail_13 : decode cX7_fail 13 = .ok (.aload_n 0, 1) := by decide +kernel
theorem dX7_fail_14 : decode cX7_fail 14 = .ok (.getfield 99, 3) := by decide +kernel
theorem dX7_fail_17 : decode cX7_fail 17 = .ok (.putfield 70, 3) := by decide +kernel
theorem dX7_fail_20 : decode cX7_fail 20 = .ok (.aload_n 0, 1) := by decide +kernel
theorem dX7_fail_21 : decode cX7_fail 21 = .ok (.iconst 0, 1) := by decide +kernel
theorem dX7_fail_22 : decode cX7_fail 22 = .ok (.putfield 96, 3) := by decide +kernel
theorem dX7_fail_25 : decode cX7_fail 25 = .ok (.return_, 1) := by decide +kernel
theorem dX7_failAt_0 : decode cX7_failAt 0 = .ok (.aload_n 0, 1) := by decide +kernel
theorem dX7_failAt_1 : decode cX7_failAt 1 = .ok (.iload_n 2, 1) := by decide +kernel
theorem dX7_failAt_2 : decode cX7_failAt 2 = .ok (.putfield 99, 3) := by decide +kernel
theorem dX7_failAt_5 : decode cX7_failAt 5 = .ok (.aload_n 0, 1) := by decide +kernel
theorem dX7_failAt_6 : decode cX7_failAt 6 = .ok (.iload_n 1, 1) := by decide +kernel
theorem dX7_failAt_7 : decode cX7_failAt 7 = .ok (.invokevirtual 106, 3) := by decide +kernel
theorem dX7_failAt_10 : decode cX7_failAt 10 = .ok (.return_, 1) := by decide +kernel
theorem dX7_opens_0 : decode cX7_opens 0 = .ok (.aload_n 0, 1) := by decide +kernel
theorem dX7_opens_1 : decode cX7_opens 1 = .ok (.getfield 64, 3) := by decide +kernel
theorem dX7_opens_4 : decode cX7_opens 4 = .ok (.bipush 15, 2) := by decide +kernel
theorem dX7_opens_6 : decode cX7_opens 6 = .ok (.if_icmp .lt 12, 3) := by decide +kernel
theorem dX7_opens_9 : decode cX7_opens 9 = .ok (.aload_n 0, 1) := by decide +kernel
theorem dX7_opens_10 : decode cX7_opens 10 = .ok (.bipush 6, 2) := by decide +kernel
theorem dX7_opens_12 : decode cX7_opens 12 = .ok (.invokevirtual 106, 3) := by decide +kernel
theorem dX7_opens_15 : decode cX7_opens 15 = .ok (.goto 13, 3) := by decide +kernel
theorem dX7_opens_18 : decode cX7_opens 18 = .ok (.aload_n 0, 1) := by decide +kernel
theorem dX7_opens_19 : decode cX7_opens 19 = .ok (.dup, 1) := by decide +kernel
theorem dX7_opens_20 : decode cX7_opens 20 = .ok (.getfield 64, 3) := by decide +kernel
theorem dX7_opens_23 : decode cX7_opens 23 = .ok (.iconst 1, 1) := by decide +kernel
theorem dX7_opens_24 : decode cX7_opens 24 = .ok (.iadd, 1) := by decide +kernel
theorem dX7_opens_25 : decode cX7_opens 25 = .ok (.putfield 64, 3) := by decide +kernel
theorem dX7_opens_28 : decode cX7_opens 28 = .ok (.return_, 1) := by decide +kernel
theorem dX7_closes_0 : decode cX7_closes 0 = .ok (.aload_n 0, 1) := by decide +kernel
theorem dX7_closes_1 : decode cX7_closes 1 = .ok (.dup, 1) := by decide +kernel
theorem dX7_closes_2 : decode cX7_closes 2 = .ok (.getfield 64, 3) := by decide +kernel
theorem dX7_closes_5 : decode cX7_closes 5 = .ok (.iconst 1, 1) := by decide +kernel
theorem dX7_closes_6 : decode cX7_closes 6 = .ok (.isub, 1) := by decide +kernel
theorem dX7_closes_7 : decode cX7_closes 7 = .ok (.putfield 64, 3) := by decide +kernel
theorem dX7_closes_10 : decode cX7_closes 10 = .ok (.return_, 1) := by decide +kernel
theorem dX7_cutWord_0 : decode cX7_cutWord 0 = .ok (.lconst 0, 1) := by decide +kernel
theorem dX7_cutWord_1 : decode cX7_cutWord 1 = .ok (.lstore_n 2, 1) := by decide +kernel
theorem dX7_cutWord_2 : decode cX7_cutWord 2 = .ok (.iconst 0, 1) := by decide +kernel
theorem dX7_cutWord_3 : decode cX7_cutWord 3 = .ok (.istore 4, 2) := by decide +kernel
theorem dX7_cutWord_5 : decode cX7_cutWord 5 = .ok (.aload_n 0, 1) := by decide +kernel
theorem dX7_cutWord_6 : decode cX7_cutWord 6 = .ok (.getfield 54, 3) := by decide +kernel
theorem dX7_cutWord_9 : decode cX7_cutWord 9 = .ok (.aload_n 0, 1) := by decide +kernel
theorem dX7_cutWord_10 : decode cX7_cutWord 10 = .ok (.getfield 51, 3) := by decide +kernel
theorem dX7_cutWord_13 : decode cX7_cutWord 13 = .ok (.if_icmp .ge 46, 3) := by decide +kernel
theorem dX7_cutWord_16 : decode cX7_cutWord 16 = .ok (.aload_n 0, 1) := by decide +kernel
theorem dX7_cutWord_17 : decode cX7_cutWord 17 = .ok (.aload_n 0, 1) := by decide +kernel
theorem dX7_cutWord_18 : decode cX7_cutWord 18 = .ok (.getfield 54, 3) := by decide +kernel
theorem dX7_cutWord_21 : decode cX7_cutWord 21 = .ok (.invokevirtual 76, 3) := by decide +kernel
theorem dX7_cutWord_24 : decode cX7_cutWord 24 = .ok (.invokestatic 79, 3) := by decide +kernel
theorem dX7_cutWord_27 : decode cX7_cutWord 27 = .ok (.ifCond .eq 32, 3) := by decide +kernel
theorem dX7_cutWord_30 : decode cX7_cutWord 30 = .ok (.lload_n 2, 1) := by decide +kernel
theorem dX7_cutWord_31 : decode cX7_cutWord 31 = .ok (.aload_n 0, 1) := by decide +kernel
theorem dX7_cutWord_32 : decode cX7_cutWord 32 = .ok (.aload_n 0, 1) := by decide +kernel
theorem dX7_cutWord_33 : decode cX7_cutWord 33 = .ok (.getfield 54, 3) := by decide +kernel
theorem dX7_cutWord_36 : decode cX7_cutWord 36 = .ok (.invokevirtual 76, 3) := by decide +kernel
theorem dX7_cutWord_39 : decode cX7_cutWord 39 = .ok (.invokestatic 41, 3) := by decide +kernel
theorem dX7_cutWord_42 : decode cX7_cutWord 42 = .ok (.lstore_n 2, 1) := by decide +kernel
theorem dX7_cutWord_43 : decode cX7_cutWord 43 = .ok (.iinc 4 1, 3) := by decide +kernel
theorem dX7_cutWord_46 : decode cX7_cutWord 46 = .ok (.aload_n 0, 1) := by decide +kernel
theorem dX7_cutWord_47 : decode cX7_cutWord 47 = .ok (.dup, 1) := by decide +kernel
theorem dX7_cutWord_48 : decode cX7_cutWord 48 = .ok (.getfield 54, 3) := by decide +kernel
theorem dX7_cutWord_51 : decode cX7_cutWord 51 = .ok (.iconst 1, 1) := by decide +kernel
theorem dX7_cutWord_52 : decode cX7_cutWord 52 = .ok (.iadd, 1) := by decide +kernel
theorem dX7_cutWord_53 : decode cX7_cutWord 53 = .ok (.putfield 54, 3) := by decide +kernel
theorem dX7_cutWord_56 : decode cX7_cutWord 56 = .ok (.goto (-51), 3) := by decide +kernel
theorem dX7_cutWord_59 : decode cX7_cutWord 59 = .ok (.aload_n 0, 1) := by decide +kernel
theorem dX7_cutWord_60 : decode cX7_cutWord 60 = .ok (.getfield 18, 3) := by decide +kernel
theorem dX7_cutWord_63 : decode cX7_cutWord 63 = .ok (.iload_n 1, 1) := by decide +kernel
theorem dX7_cutWord_64 : decode cX7_cutWord 64 = .ok (.lload_n 2, 1) := by decide +kernel
theorem dX7_cutWord_65 : decode cX7_cutWord 65 = .ok (.lastore, 1) := by decide +kernel
theorem dX7_cutWord_66 : decode cX7_cutWord 66 = .ok (.aload_n 0, 1) := by decide +kernel
theorem dX7_cutWord_67 : decode cX7_cutWord 67 = .ok (.getfield 9, 3) := by decide +kernel
theorem dX7_cutWord_70 : decode cX7_cutWord 70 = .ok (.iload_n 1, 1) := by decide +kernel
theorem dX7_cutWord_71 : decode cX7_cutWord 71 = .ok (.iload 4, 2) := by decide +kernel
theorem dX7_cutWord_73 : decode cX7_cutWord 73 = .ok (.bipush 10, 2) := by decide +kernel
theorem dX7_cutWord_75 : decode cX7_cutWord 75 = .ok (.if_icmp .le 7, 3) := by decide +kernel
theorem dX7_cutWord_78 : decode cX7_cutWord 78 = .ok (.iconst 0, 1) := by decide +kernel
theorem dX7_cutWord_79 : decode cX7_cutWord 79 = .ok (.goto 4, 3) := by decide +kernel
theorem dX7_cutWord_82 : decode cX7_cutWord 82 = .ok (.iconst 2, 1) := by decide +kernel
theorem dX7_cutWord_83 : decode cX7_cutWord 83 = .ok (.iastore, 1) := by decide +kernel
theorem dX7_cutWord_84 : decode cX7_cutWord 84 = .ok (.iconst 0, 1) := by decide +kernel
theorem dX7_cutWord_85 : decode cX7_cutWord 85 = .ok (.istore 5, 2) := by decide +kernel
theorem dX7_cutWord_87 : decode cX7_cutWord 87 = .ok (.iload 5, 2) := by decide +kernel
theorem dX7_cutWord_89 : decode cX7_cutWord 89 = .ok (.bipush 33, 2) := by decide +kernel
theorem dX7_cutWord_91 : decode cX7_cutWord 91 = .ok (.if_icmp .ge 42, 3) := by decide +kernel
theorem dX7_cutWord_94 : decode cX7_cutWord 94 = .ok (.aload_n 0, 1) := by decide +kernel
theorem dX7_cutWord_95 : decode cX7_cutWord 95 = .ok (.getfield 9, 3) := by decide +kernel
theorem dX7_cutWord_98 : decode cX7_cutWord 98 = .ok (.iload_n 1, 1) := by decide +kernel
theorem dX7_cutWord_99 : decode cX7_cutWord 99 = .ok (.iaload, 1) := by decide +kernel
theorem dX7_cutWord_100 : decode cX7_cutWord 100 = .ok (.iconst 2, 1) := by decide +kernel
theorem dX7_cutWord_101 : decode cX7_cutWord 101 = .ok (.if_icmp .ne 32, 3) := by decide +kernel
theorem dX7_cutWord_104 : decode cX7_cutWord 104 = .ok (.aload_n 0, 1) := by decide +kernel
theorem dX7_cutWord_105 : decode cX7_cutWord 105 = .ok (.getfield 26, 3) := by decide +kernel
theorem dX7_cutWord_108 : decode cX7_cutWord 108 = .ok (.iload 5, 2) := by decide +kernel
theorem dX7_cutWord_110 : decode cX7_cutWord 110 = .ok (.laload, 1) := by decide +kernel
theorem dX7_cutWord_111 : decode cX7_cutWord 111 = .ok (.lload_n 2, 1) := by decide +kernel
theorem dX7_cutWord_112 : decode cX7_cutWord 112 = .ok (.lcmp, 1) := by decide +kernel
theorem dX7_cutWord_113 : decode cX7_cutWord 113 = .ok (.ifCond .ne 14, 3) := by decide +kernel
theorem dX7_cutWord_116 : decode cX7_cutWord 116 = .ok (.aload_n 0, 1) := by decide +kernel
theorem dX7_cutWord_117 : decode cX7_cutWord 117 = .ok (.getfield 9, 3) := by decide +kernel
theorem dX7_cutWord_120 : decode cX7_cutWord 120 = .ok (.iload_n 1, 1) := by decide +kernel
theorem dX7_cutWord_121 : decode cX7_cutWord 121 = .ok (.bipush 30, 2) := by decide +kernel
theorem dX7_cutWord_123 : decode cX7_cutWord 123 = .ok (.iload 5, 2) := by decide +kernel
theorem dX7_cutWord_125 : decode cX7_cutWord 125 = .ok (.iadd, 1) := by decide +kernel
theorem dX7_cutWord_126 : decode cX7_cutWord 126 = .ok (.iastore, 1) := by decide +kernel
theorem dX7_cutWord_127 : decode cX7_cutWord 127 = .ok (.iinc 5 1, 3) := by decide +kernel
theorem dX7_cutWord_130 : decode cX7_cutWord 130 = .ok (.goto (-43), 3) := by decide +kernel
theorem dX7_cutWord_133 : decode cX7_cutWord 133 = .ok (.return_, 1) := by decide +kernel
theorem dX7_cutNumber_0 : decode cX7_cutNumber 0 = .ok (.lconst 0, 1) := by decide +kernel
theorem dX7_cutNumber_1 : decode cX7_cutNumber 1 = .ok (.lstore_n 2, 1) := by decide +kernel
theorem dX7_cutNumber_2 : decode cX7_cutNumber 2 = .ok (.iconst 0, 1) := by decide +kernel
theorem dX7_cutNumber_3 : decode cX7_cutNumber 3 = .ok (.istore 4, 2) := by decide +kernel
theorem dX7_cutNumber_5 : decode cX7_cutNumber 5 = .ok (.aload_n 0, 1) := by decide +kernel
theorem dX7_cutNumber_6 : decode cX7_cutNumber 6 = .ok (.getfield 54, 3) := by decide +kernel
theorem dX7_cutNumber_9 : decode cX7_cutNumber 9 = .ok (.aload_n 0, 1) := by decide +kernel
theorem dX7_cutNumber_10 : decode cX7_cutNumber 10 = .ok (.getfield 51, 3) := by decide +kernel
theorem dX7_cutNumber_13 : decode cX7_cutNumber 13 = .ok (.if_icmp .ge 53, 3) := by decide +kernel
theorem dX7_cutNumber_16 : decode cX7_cutNumber 16 = .ok (.aload_n 0, 1) := by decide +kernel
theorem dX7_cutNumber_17 : decode cX7_cutNumber 17 = .ok (.aload_n 0, 1) := by decide +kernel
theorem dX7_cutNumber_18 : decode cX7_cutNumber 18 = .ok (.getfield 54, 3) := by decide +kernel
theorem dX7_cutNumber_21 : decode cX7_cutNumber 21 = .ok (.invokevirtual 76, 3) := by decide +kernel
theorem dX7_cutNumber_24 : decode cX7_cutNumber 24 = .ok (.invokestatic 87, 3) := by decide +kernel
theorem dX7_cutNumber_27 : decode cX7_cutNumber 27 = .ok (.ifCond .eq 39, 3) := by decide +kernel
theorem dX7_cutNumber_30 : decode cX7_cutNumber 30 = .ok (.lload_n 2, 1) := by decide +kernel
theorem dX7_cutNumber_31 : decode cX7_cutNumber 31 = .ok (.ldc2_w 109, 3) := by decide +kernel
theorem dX7_cutNumber_34 : decode cX7_cutNumber 34 = .ok (.lmul, 1) := by decide +kernel
theorem dX7_cutNumber_35 : decode cX7_cutNumber 35 = .ok (.aload_n 0, 1) := by decide +kernel
theorem dX7_cutNumber_36 : decode cX7_cutNumber 36 = .ok (.aload_n 0, 1) := by decide +kernel
theorem dX7_cutNumber_37 : decode cX7_cutNumber 37 = .ok (.getfield 54, 3) := by decide +kernel
theorem dX7_cutNumber_40 : decode cX7_cutNumber 40 = .ok (.invokevirtual 76, 3) := by decide +kernel
theorem dX7_cutNumber_43 : decode cX7_cutNumber 43 = .ok (.i2l, 1) := by decide +kernel
theorem dX7_cutNumber_44 : decode cX7_cutNumber 44 = .ok (.ladd, 1) := by decide +kernel
theorem dX7_cutNumber_45 : decode cX7_cutNumber 45 = .ok (.ldc2_w 111, 3) := by decide +kernel
theorem dX7_cutNumber_48 : decode cX7_cutNumber 48 = .ok (.lsub, 1) := by decide +kernel
theorem dX7_cutNumber_49 : decode cX7_cutNumber 49 = .ok (.lstore_n 2, 1) := by decide +kernel
theorem dX7_cutNumber_50 : decode cX7_cutNumber 50 = .ok (.iinc 4 1, 3) := by decide +kernel
theorem dX7_cutNumber_53 : decode cX7_cutNumber 53 = .ok (.aload_n 0, 1) := by decide +kernel
theorem dX7_cutNumber_54 : decode cX7_cutNumber 54 = .ok (.dup, 1) := by decide +kernel
theorem dX7_cutNumber_55 : decode cX7_cutNumber 55 = .ok (.getfield 54, 3) := by decide +kernel
theorem dX7_cutNumber_58 : decode cX7_cutNumber 58 = .ok (.iconst 1, 1) := by decide +kernel
theorem dX7_cutNumber_59 : decode cX7_cutNumber 59 = .ok (.iadd, 1) := by decide +kernel
theorem dX7_cutNumber_60 : decode cX7_cutNumber 60 = .ok (.putfield 54, 3) := by decide +kernel
theorem dX7_cutNumber_63 : decode cX7_cutNumber 63 = .ok (.goto (-58), 3) := by decide +kernel
theorem dX7_cutNumber_66 : decode cX7_cutNumber 66 = .ok (.aload_n 0, 1) := by decide +kernel
theorem dX7_cutNumber_67 : decode cX7_cutNumber 67 = .ok (.getfield 18, 3) := by decide +kernel
theorem dX7_cutNumber_70 : decode cX7_cutNumber 70 = .ok (.iload_n 1, 1) := by decide +kernel
theorem dX7_cutNumber_71 : decode cX7_cutNumber 71 = .ok (.lload_n 2, 1) := by decide +kernel
theorem dX7_cutNumber_72 : decode cX7_cutNumber 72 = .ok (.lastore, 1) := by decide +kernel
theorem dX7_cutNumber_73 : decode cX7_cutNumber 73 = .ok (.aload_n 0, 1) := by decide +kernel
theorem dX7_cutNumber_74 : decode cX7_cutNumber 74 = .ok (.getfield 9, 3) := by decide +kernel
theorem dX7_cutNumber_77 : decode cX7_cutNumber 77 = .ok (.iload_n 1, 1) := by decide +kernel
theorem dX7_cutNumber_78 : decode cX7_cutNumber 78 = .ok (.iload 4, 2) := by decide +kernel
theorem dX7_cutNumber_80 : decode cX7_cutNumber 80 = .ok (.bipush 6, 2) := by decide +kernel
theorem dX7_cutNumber_82 : decode cX7_cutNumber 82 = .ok (.if_icmp .le 7, 3) := by decide +kernel
theorem dX7_cutNumber_85 : decode cX7_cutNumber 85 = .ok (.iconst 0, 1) := by decide +kernel
theorem dX7_cutNumber_86 : decode cX7_cutNumber 86 = .ok (.goto 4, 3) := by decide +kernel
theorem dX7_cutNumber_89 : decode cX7_cutNumber 89 = .ok (.iconst 3, 1) := by decide +kernel
theorem dX7_cutNumber_90 : decode cX7_cutNumber 90 = .ok (.iastore, 1) := by decide +kernel
theorem dX7_cutNumber_91 : decode cX7_cutNumber 91 = .ok (.return_, 1) := by decide +kernel
theorem dX7_signKind_0 : decode cX7_signKind 0 = .ok (.aload_n 0, 1) := by decide +kernel
theorem dX7_signKind_1 : decode cX7_signKind 1 = .ok (.dup, 1) := by decide +kernel
theorem dX7_signKind_2 : decode cX7_signKind 2 = .ok (.getfield 54, 3) := by decide +kernel
theorem dX7_signKind_5 : decode cX7_signKind 5 = .ok (.iconst 1, 1) := by decide +kernel
theorem dX7_signKind_6 : decode cX7_signKind 6 = .ok (.iadd, 1) := by decide +kernel
theorem dX7_signKind_7 : decode cX7_signKind 7 = .ok (.putfield 54, 3) := by decide +kernel
theorem dX7_signKind_10 : decode cX7_signKind 10 = .ok (.ldc 113, 2) := by decide +kernel
theorem dX7_signKind_12 : decode cX7_signKind 12 = .ok (.iload_n 1, 1) := by decide +kernel
theorem dX7_signKind_13 : decode cX7_signKind 13 = .ok (.i2c, 1) := by decide +kernel
theorem dX7_signKind_14 : decode cX7_signKind 14 = .ok (.invokevirtual 115, 3) := by decide +kernel
theorem dX7_signKind_17 : decode cX7_signKind 17 = .ok (.istore_n 2, 1) := by decide +kernel
theorem dX7_signKind_18 : decode cX7_signKind 18 = .ok (.iload_n 2, 1) := by decide +kernel
theorem dX7_signKind_19 : decode cX7_signKind 19 = .ok (.ifCond .lt 8, 3) := by decide +kernel
theorem dX7_signKind_22 : decode cX7_signKind 22 = .ok (.bipush 13, 2) := by decide +kernel
theorem dX7_signKind_24 : decode cX7_signKind 24 = .ok (.iload_n 2, 1) := by decide +kernel
theorem dX7_signKind_25 : decode cX7_signKind 25 = .ok (.iadd, 1) := by decide +kernel
theorem dX7_signKind_26 : decode cX7_signKind 26 = .ok (.ireturn, 1) := by decide +kernel
theorem dX7_signKind_27 : decode cX7_signKind 27 = .ok (.iload_n 1, 1) := by decide +kernel
theorem dX7_signKind_28 : decode cX7_signKind 28 = .ok (.lookupswitch 114 #[(33, 72), (58, 60), (60, 82), (61, 69), (62, 93), (124, 104)], 60) := by decide +kernel
theorem dX7_signKind_88 : decode cX7_signKind 88 = .ok (.aload_n 0, 1) := by decide +kernel
theorem dX7_signKind_89 : decode cX7_signKind 89 = .ok (.bipush 61, 2) := by decide +kernel
theorem dX7_signKind_91 : decode cX7_signKind 91 = .ok (.iconst 5, 1) := by decide +kernel
theorem dX7_signKind_92 : decode cX7_signKind 92 = .ok (.iconst 4, 1) := by decide +kernel
theorem dX7_signKind_93 : decode cX7_signKind 93 = .ok (.invokevirtual 118, 3) := by decide +kernel
theorem dX7_signKind_96 : decode cX7_signKind 96 = .ok (.ireturn, 1) := by decide +kernel
theorem dX7_signKind_97 : decode cX7_signKind 97 = .ok (.bipush 7, 2) := by decide +kernel
theorem dX7_signKind_99 : decode cX7_signKind 99 = .ok (.ireturn, 1) := by decide +kernel
theorem dX7_signKind_100 : decode cX7_signKind 100 = .ok (.aload_n 0, 1) := by decide +kernel
theorem dX7_signKind_101 : decode cX7_signKind 101 = .ok (.bipush 61, 2) := by decide +kernel
theorem dX7_signKind_103 : decode cX7_signKind 103 = .ok (.bipush 8, 2) := by decide +kernel
theorem dX7_signKind_105 : decode cX7_signKind 105 = .ok (.iconst 0, 1) := by decide +kernel
theorem dX7_signKind_106 : decode cX7_signKind 106 = .ok (.invokevirtual 118, 3) := by decide +kernel
theorem dX7_signKind_109 : decode cX7_signKind 109 = .ok (.ireturn, 1) := by decide +kernel
theorem dX7_signKind_110 : decode cX7_signKind 110 = .ok (.aload_n 0, 1) := by decide +kernel
theorem dX7_signKind_111 : decode cX7_signKind 111 = .ok (.bipush 61, 2) := by decide +kernel
theorem dX7_signKind_113 : decode cX7_signKind 113 = .ok (.bipush 10, 2) := by decide +kernel
theorem dX7_signKind_115 : decode cX7_signKind 115 = .ok (.bipush 9, 2) := by decide +kernel
theorem dX7_signKind_117 : decode cX7_signKind 117 = .ok (.invokevirtual 118, 3) := by decide +kernel
theorem dX7_signKind_120 : decode cX7_signKind 120 = .ok (.ireturn, 1) := by decide +kernel
theorem dX7_signKind_121 : decode cX7_signKind 121 = .ok (.aload_n 0, 1) := by decide +kernel
theorem dX7_signKind_122 : decode cX7_signKind 122 = .ok (.bipush 61, 2) := by decide +kernel
theorem dX7_signKind_124 : decode cX7_signKind 124 = .ok (.bipush 12, 2) := by decide +kernel
theorem dX7_signKind_126 : decode cX7_signKind 126 = .ok (.bipush 11, 2) := by decide +kernel
theorem dX7_signKind_128 : decode cX7_signKind 128 = .ok (.invokevirtual 118, 3) := by decide +kernel
theorem dX7_signKind_131 : decode cX7_signKind 131 = .ok (.ireturn, 1) := by decide +kernel
theorem dX7_signKind_132 : decode cX7_signKind 132 = .ok (.aload_n 0, 1) := by decide +kernel
theorem dX7_signKind_133 : decode cX7_signKind 133 = .ok (.bipush 124, 2) := by decide +kernel
theorem dX7_signKind_135 : decode cX7_signKind 135 = .ok (.bipush 6, 2) := by decide +kernel
theorem dX7_signKind_137 : decode cX7_signKind 137 = .ok (.iconst 0, 1) := by decide +kernel
theorem dX7_signKind_138 : decode cX7_signKind 138 = .ok (.invokevirtual 118, 3) := by decide +kernel
theorem dX7_signKind_141 : decode cX7_signKind 141 = .ok (.ireturn, 1) := by decide +kernel
theorem dX7_signKind_142 : decode cX7_signKind 142 = .ok (.iconst 0, 1) := by decide +kernel
theorem dX7_signKind_143 : decode cX7_signKind 143 = .ok (.ireturn, 1) := by decide +kernel
theorem dX7_withNext_0 : decode cX7_withNext 0 = .ok (.aload_n 0, 1) := by decide +kernel
theorem dX7_withNext_1 : decode cX7_withNext 1 = .ok (.aload_n 0, 1) := by decide +kernel
theorem dX7_withNext_2 : decode cX7_withNext 2 = .ok (.getfield 54, 3) := by decide +kernel
theorem dX7_withNext_5 : decode cX7_withNext 5 = .ok (.invokevirtual 76, 3) := by decide +kernel
theorem dX7_withNext_8 : decode cX7_withNext 8 = .ok (.iload_n 1, 1) := by decide +kernel
theorem dX7_withNext_9 : decode cX7_withNext 9 = .ok (.if_icmp .eq 5, 3) := by decide +kernel
theorem dX7_withNext_12 : decode cX7_withNext 12 = .ok (.iload_n 3, 1) := by decide +kernel
theorem dX7_withNext_13 : decode cX7_withNext 13 = .ok (.ireturn, 1) := by decide +kernel
theorem dX7_withNext_14 : decode cX7_withNext 14 = .ok (.aload_n 0, 1) := by decide +kernel
theorem dX7_withNext_15 : decode cX7_withNext 15 = .ok (.dup, 1) := by decide +kernel
theorem dX7_withNext_16 : decode cX7_withNext 16 = .ok (.getfield 54, 3) := by decide +kernel
theorem dX7_withNext_19 : decode cX7_withNext 19 = .ok (.iconst 1, 1) := by decide +kernel
theorem dX7_withNext_20 : decode cX7_withNext 20 = .ok (.iadd, 1) := by decide +kernel
theorem dX7_withNext_21 : decode cX7_withNext 21 = .ok (.putfield 54, 3) := by decide +kernel
theorem dX7_withNext_24 : decode cX7_withNext 24 = .ok (.iload_n 2, 1) := by decide +kernel
theorem dX7_withNext_25 : decode cX7_withNext 25 = .ok (.ireturn, 1) := by decide +kernel
theorem dX7_byteAt_0 : decode cX7_byteAt 0 = .ok (.iload_n 1, 1) := by decide +kernel
theorem dX7_byteAt_1 : decode cX7_byteAt 1 = .ok (.aload_n 0, 1) := by decide +kernel
theorem dX7_byteAt_2 : decode cX7_byteAt 2 = .ok (.getfield 51, 3) := by decide +kernel
theorem dX7_byteAt_5 : decode cX7_byteAt 5 = .ok (.if_icmp .ge 16, 3) := by decide +kernel
theorem dX7_byteAt_8 : decode cX7_byteAt 8 = .ok (.aload_n 0, 1) := by decide +kernel
theorem dX7_byteAt_9 : decode cX7_byteAt 9 = .ok (.getfield 22, 3) := by decide +kernel
theorem dX7_byteAt_12 : decode cX7_byteAt 12 = .ok (.iload_n 1, 1) := by decide +kernel
theorem dX7_byteAt_13 : decode cX7_byteAt 13 = .ok (.baload, 1) := by decide +kernel
theorem dX7_byteAt_14 : decode cX7_byteAt 14 = .ok (.sipush 255, 3) := by decide +kernel
theorem dX7_byteAt_17 : decode cX7_byteAt 17 = .ok (.iand, 1) := by decide +kernel
theorem dX7_byteAt_18 : decode cX7_byteAt 18 = .ok (.goto 4, 3) := by decide +kernel
theorem dX7_byteAt_21 : decode cX7_byteAt 21 = .ok (.iconst 0, 1) := by decide +kernel
theorem dX7_byteAt_22 : decode cX7_byteAt 22 = .ok (.ireturn, 1) := by decide +kernel
theorem dX7_spelled_0 : decode cX7_spelled 0 = .ok (.lload_n 0, 1) := by decide +kernel
theorem dX7_spelled_1 : decode cX7_spelled 1 = .ok (.ldc2_w 122, 3) := by decide +kernel
theorem dX7_spelled_4 : decode cX7_spelled 4 = .ok (.lmul, 1) := by decide +kernel
theorem dX7_spelled_5 : decode cX7_spelled 5 = .ok (.iload_n 2, 1) := by decide +kernel
theorem dX7_spelled_6 : decode cX7_spelled 6 = .ok (.i2l, 1) := by decide +kernel
theorem dX7_spelled_7 : decode cX7_spelled 7 = .ok (.ladd, 1) := by decide +kernel
theorem dX7_spelled_8 : decode cX7_spelled 8 = .ok (.ldc2_w 124, 3) := by decide +kernel
theorem dX7_spelled_11 : decode cX7_spelled 11 = .ok (.lsub, 1) := by decide +kernel
theorem dX7_spelled_12 : decode cX7_spelled 12 = .ok (.lconst 1, 1) := by decide +kernel
theorem dX7_spelled_13 : decode cX7_spelled 13 = .ok (.ladd, 1) := by decide +kernel
theorem dX7_spelled_14 : decode cX7_spelled 14 = .ok (.lreturn, 1) := by decide +kernel
theorem dX7_isLetter_0 : decode cX7_isLetter 0 = .ok (.iload_n 0, 1) := by decide +kernel
theorem dX7_isLetter_1 : decode cX7_isLetter 1 = .ok (.bipush 97, 2) := by decide +kernel
theorem dX7_isLetter_3 : decode cX7_isLetter 3 = .ok (.if_icmp .lt 13, 3) := by decide +kernel
theorem dX7_isLetter_6 : decode cX7_isLetter 6 = .ok (.iload_n 0, 1) := by decide +kernel
theorem dX7_isLetter_7 : decode cX7_isLetter 7 = .ok (.bipush 122, 2) := by decide +kernel
theorem dX7_isLetter_9 : decode cX7_isLetter 9 = .ok (.if_icmp .gt 7, 3) := by decide +kernel
theorem dX7_isLetter_12 : decode cX7_isLetter 12 = .ok (.iconst 1, 1) := by decide +kernel
theorem dX7_isLetter_13 : decode cX7_isLetter 13 = .ok (.goto 4, 3) := by decide +kernel
theorem dX7_isLetter_16 : decode cX7_isLetter 16 = .ok (.iconst 0, 1) := by decide +kernel
theorem dX7_isLetter_17 : decode cX7_isLetter 17 = .ok (.ireturn, 1) := by decide +kernel
theorem dX7_isFigure_0 : decode cX7_isFigure 0 = .ok (.iload_n 0, 1) := by decide +kernel
theorem dX7_isFigure_1 : decode cX7_isFigure 1 = .ok (.bipush 48, 2) := by decide +kernel
theorem dX7_isFigure_3 : decode cX7_isFigure 3 = .ok (.if_icmp .lt 13, 3) := by decide +kernel
theorem dX7_isFigure_6 : decode cX7_isFigure 6 = .ok (.iload_n 0, 1) := by decide +kernel
theorem dX7_isFigure_7 : decode cX7_isFigure 7 = .ok (.bipush 57, 2) := by decide +kernel
theorem dX7_isFigure_9 : decode cX7_isFigure 9 = .ok (.if_icmp .gt 7, 3) := by decide +kernel
theorem dX7_isFigure_12 : decode cX7_isFigure 12 = .ok (.iconst 1, 1) := by decide +kernel
theorem dX7_isFigure_13 : decode cX7_isFigure 13 = .ok (.goto 4, 3) := by decide +kernel
theorem dX7_isFigure_16 : decode cX7_isFigure 16 = .ok (.iconst 0, 1) := by decide +kernel
theorem dX7_isFigure_17 : decode cX7_isFigure 17 = .ok (.ireturn, 1) := by decide +kernel
