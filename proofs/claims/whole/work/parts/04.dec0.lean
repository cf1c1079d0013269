theorem dX1_init_0 : decode cX1_init 0 = .ok (.aload_n 0, 1) := by decide +kernel
theorem dX1_init_1 : decode cX1_init 1 = .ok (.invokespecial 3, 3) := by decide +kernel
theorem dX1_init_4 : decode cX1_init 4 = .ok (.aload_n 0, 1) := by decide +kernel
theorem dX1_init_5 : decode cX1_init 5 = .ok (.iconst 0, 1) := by decide +kernel
theorem dX1_init_6 : decode cX1_init 6 = .ok (.putfield 9, 3) := by decide +kernel
theorem dX1_init_9 : decode cX1_init 9 = .ok (.aload_n 0, 1) := by decide +kernel
theorem dX1_init_10 : decode cX1_init 10 = .ok (.sipush 1240, 3) := by decide +kernel
theorem dX1_init_13 : decode cX1_init 13 = .ok (.newarray .int, 2) := by decide +kernel
theorem dX1_init_15 : decode cX1_init 15 = .ok (.putfield 17, 3) := by decide +kernel
theorem dX1_init_18 : decode cX1_init 18 = .ok (.return_, 1) := by decide +kernel
theorem dX1_keep_0 : decode cX1_keep 0 = .ok (.aload_n 0, 1) := by decide +kernel
theorem dX1_keep_1 : decode cX1_keep 1 = .ok (.getfield 9, 3) := by decide +kernel
theorem dX1_keep_4 : decode cX1_keep 4 = .ok (.bipush 40, 2) := by decide +kernel
theorem dX1_keep_6 : decode cX1_keep 6 = .ok (.if_icmp .lt 26, 3) := by decide +kernel
theorem dX1_keep_9 : decode cX1_keep 9 = .ok (.aload_n 0, 1) := by decide +kernel
theorem dX1_keep_10 : decode cX1_keep 10 = .ok (.getfield 17, 3) := by decide +kernel
theorem dX1_keep_13 : decode cX1_keep 13 = .ok (.bipush 31, 2) := by decide +kernel
theorem dX1_keep_15 : decode cX1_keep 15 = .ok (.aload_n 0, 1) := by decide +kernel
theorem dX1_keep_16 : decode cX1_keep 16 = .ok (.getfield 17, 3) := by decide +kernel
theorem dX1_keep_19 : decode cX1_keep 19 = .ok (.iconst 0, 1) := by decide +kernel
theorem dX1_keep_20 : decode cX1_keep 20 = .ok (.sipush 1209, 3) := by decide +kernel
theorem dX1_keep_23 : decode cX1_keep 23 = .ok (.invokestatic 21, 3) := by decide +kernel
theorem dX1_keep_26 : decode cX1_keep 26 = .ok (.aload_n 0, 1) := by decide +kernel
theorem dX1_keep_27 : decode cX1_keep 27 = .ok (.bipush 39, 2) := by decide +kernel
theorem dX1_keep_29 : decode cX1_keep 29 = .ok (.putfield 9, 3) := by decide +kernel
theorem dX1_keep_32 : decode cX1_keep 32 = .ok (.aload_n 1, 1) := by decide +kernel
theorem dX1_keep_33 : decode cX1_keep 33 = .ok (.aload_n 0, 1) := by decide +kernel
theorem dX1_keep_34 : decode cX1_keep 34 = .ok (.getfield 17, 3) := by decide +kernel
theorem dX1_keep_37 : decode cX1_keep 37 = .ok (.aload_n 0, 1) := by decide +kernel
theorem dX1_keep_38 : decode cX1_keep 38 = .ok (.getfield 9, 3) := by decide +kernel
theorem dX1_keep_41 : decode cX1_keep 41 = .ok (.bipush 31, 2) := by decide +kernel
theorem dX1_keep_43 : decode cX1_keep 43 = .ok (.imul, 1) := by decide +kernel
theorem dX1_keep_44 : decode cX1_keep 44 = .ok (.invokevirtual 27, 3) := by decide +kernel
theorem dX1_keep_47 : decode cX1_keep 47 = .ok (.aload_n 0, 1) := by decide +kernel
theorem dX1_keep_48 : decode cX1_keep 48 = .ok (.dup, 1) := by decide +kernel
theorem dX1_keep_49 : decode cX1_keep 49 = .ok (.getfield 9, 3) := by decide +kernel
theorem dX1_keep_52 : decode cX1_keep 52 = .ok (.iconst 1, 1) := by decide +kernel
theorem dX1_keep_53 : decode cX1_keep 53 = .ok (.iadd, 1) := by decide +kernel
theorem dX1_keep_54 : decode cX1_keep 54 = .ok (.putfield 9, 3) := by decide +kernel
theorem dX1_keep_57 : decode cX1_keep 57 = .ok (.return_, 1) := by decide +kernel
theorem dX1_takeBack_0 : decode cX1_takeBack 0 = .ok (.aload_n 0, 1) := by decide +kernel
theorem dX1_takeBack_1 : decode cX1_takeBack 1 = .ok (.getfield 9, 3) := by decide +kernel
theorem dX1_takeBack_4 : decode cX1_takeBack 4 = .ok (.ifCond .ne 5, 3) := by decide +kernel
theorem dX1_takeBack_7 : decode cX1_takeBack 7 = .ok (.iconst 0, 1) := by decide +kernel
theorem dX1_takeBack_8 : decode cX1_takeBack 8 = .ok (.ireturn, 1) := by decide +kernel
theorem dX1_takeBack_9 : decode cX1_takeBack 9 = .ok (.aload_n 0, 1) := by decide +kernel
theorem dX1_takeBack_10 : decode cX1_takeBack 10 = .ok (.dup, 1) := by decide +kernel
theorem dX1_takeBack_11 : decode cX1_takeBack 11 = .ok (.getfield 9, 3) := by decide +kernel
theorem dX1_takeBack_14 : decode cX1_takeBack 14 = .ok (.iconst 1, 1) := by decide +kernel
theorem dX1_takeBack_15 : decode cX1_takeBack 15 = .ok (.isub, 1) := by decide +kernel
theorem dX1_takeBack_16 : decode cX1_takeBack 16 = .ok (.putfield 9, 3) := by decide +kernel
theorem dX1_takeBack_19 : decode cX1_takeBack 19 = .ok (.aload_n 1, 1) := by decide +kernel
theorem dX1_takeBack_20 : decode cX1_takeBack 20 = .ok (.aload_n 0, 1) := by decide +kernel
theorem dX1_takeBack_21 : decode cX1_takeBack 21 = .ok (.getfield 17, 3) := by decide +kernel
theorem dX1_takeBack_24 : decode cX1_takeBack 24 = .ok (.aload_n 0, 1) := by decide +kernel
theorem dX1_takeBack_25 : decode cX1_takeBack 25 = .ok (.getfield 9, 3) := by decide +kernel
theorem dX1_takeBack_28 : decode cX1_takeBack 28 = .ok (.bipush 31, 2) := by decide +kernel
theorem dX1_takeBack_30 : decode cX1_takeBack 30 = .ok (.imul, 1) := by decide +kernel
theorem dX1_takeBack_31 : decode cX1_takeBack 31 = .ok (.invokevirtual 31, 3) := by decide +kernel
theorem dX1_takeBack_34 : decode cX1_takeBack 34 = .ok (.iconst 1, 1) := by decide +kernel
theorem dX1_takeBack_35 : decode cX1_takeBack 35 = .ok (.ireturn, 1) := by decide +kernel
theorem dX1_become_0 : decode cX1_become 0 = .ok (.aload_n 0, 1) := by decide +kernel
theorem dX1_become_1 : decode cX1_become 1 = .ok (.aload_n 1, 1) := by decide +kernel
theorem dX1_become_2 : decode cX1_become 2 = .ok (.getfield 9, 3) := by decide +kernel
theorem dX1_become_5 : decode cX1_become 5 = .ok (.putfield 9, 3) := by decide +kernel
theorem dX1_become_8 : decode cX1_become 8 = .ok (.aload_n 1, 1) := by decide +kernel
theorem dX1_become_9 : decode cX1_become 9 = .ok (.getfield 17, 3) := by decide +kernel
theorem dX1_become_12 : decode cX1_become 12 = .ok (.iconst 0, 1) := by decide +kernel
theorem dX1_become_13 : decode cX1_become 13 = .ok (.aload_n 0, 1) := by decide +kernel
theorem dX1_become_14 : decode cX1_become 14 = .ok (.getfield 17, 3) := by decide +kernel
theorem dX1_become_17 : decode cX1_become 17 = .ok (.iconst 0, 1) := by decide +kernel
theorem dX1_become_18 : decode cX1_become 18 = .ok (.aload_n 0, 1) := by decide +kernel
theorem dX1_become_19 : decode cX1_become 19 = .ok (.getfield 9, 3) := by decide +kernel
theorem dX1_become_22 : decode cX1_become 22 = .ok (.bipush 31, 2) := by decide +kernel
theorem dX1_become_24 : decode cX1_become 24 = .ok (.imul, 1) := by decide +kernel
theorem dX1_become_25 : decode cX1_become 25 = .ok (.invokestatic 21, 3) := by decide +kernel
theorem dX1_become_28 : decode cX1_become 28 = .ok (.return_, 1) := by decide +kernel
theorem dX2_init_0 : decode cX2_init 0 = .ok (.aload_n 0, 1) := by decide +kernel
theorem dX2_init_1 : decode cX2_init 1 = .ok (.invokespecial 3, 3) := by decide +kernel
theorem dX2_init_4 : decode cX2_init 4 = .ok (.aload_n 0, 1) := by decide +kernel
theorem dX2_init_5 : decode cX2_init 5 = .ok (.new 9, 3) := by decide +kernel
theorem dX2_init_8 : decode cX2_init 8 = .ok (.dup, 1) := by decide +kernel
theorem dX2_init_9 : decode cX2_init 9 = .ok (.invokespecial 11, 3) := by decide +kernel
theorem dX2_init_12 : decode cX2_init 12 = .ok (.putfield 12, 3) := by decide +kernel
theorem dX2_init_15 : decode cX2_init 15 = .ok (.aload_n 0, 1) := by decide +kernel
theorem dX2_init_16 : decode cX2_init 16 = .ok (.iconst 4, 1) := by decide +kernel
theorem dX2_init_17 : decode cX2_init 17 = .ok (.anewarray 9, 3) := by decide +kernel
theorem dX2_init_20 : decode cX2_init 20 = .ok (.putfield 18, 3) := by decide +kernel
theorem dX2_init_23 : decode cX2_init 23 = .ok (.aload_n 0, 1) := by decide +kernel
theorem dX2_init_24 : decode cX2_init 24 = .ok (.iconst (-1), 1) := by decide +kernel
theorem dX2_init_25 : decode cX2_init 25 = .ok (.putfield 22, 3) := by decide +kernel
theorem dX2_init_28 : decode cX2_init 28 = .ok (.aload_n 0, 1) := by decide +kernel
theorem dX2_init_29 : decode cX2_init 29 = .ok (.bipush 30, 2) := by decide +kernel
theorem dX2_init_31 : decode cX2_init 31 = .ok (.newarray .int, 2) := by decide +kernel
theorem dX2_init_33 : decode cX2_init 33 = .ok (.putfield 26, 3) := by decide +kernel
theorem dX2_init_36 : decode cX2_init 36 = .ok (.aload_n 0, 1) := by decide +kernel
theorem dX2_init_37 : decode cX2_init 37 = .ok (.sipush 480, 3) := by decide +kernel
theorem dX2_init_40 : decode cX2_init 40 = .ok (.newarray .long, 2) := by decide +kernel
theorem dX2_init_42 : decode cX2_init 42 = .ok (.putfield 30, 3) := by decide +kernel
theorem dX2_init_45 : decode cX2_init 45 = .ok (.aload_n 0, 1) := by decide +kernel
theorem dX2_init_46 : decode cX2_init 46 = .ok (.bipush 30, 2) := by decide +kernel
theorem dX2_init_48 : decode cX2_init 48 = .ok (.newarray .int, 2) := by decide +kernel
theorem dX2_init_50 : decode cX2_init 50 = .ok (.putfield 34, 3) := by decide +kernel
theorem dX2_init_53 : decode cX2_init 53 = .ok (.aload_n 0, 1) := by decide +kernel
theorem dX2_init_54 : decode cX2_init 54 = .ok (.iconst 4, 1) := by decide +kernel
theorem dX2_init_55 : decode cX2_init 55 = .ok (.newarray .int, 2) := by decide +kernel
theorem dX2_init_57 : decode cX2_init 57 = .ok (.putfield 37, 3) := by decide +kernel
theorem dX2_init_60 : decode cX2_init 60 = .ok (.aload_n 0, 1) := by decide +kernel
theorem dX2_init_61 : decode cX2_init 61 = .ok (.iconst 4, 1) := by decide +kernel
theorem dX2_init_62 : decode cX2_init 62 = .ok (.newarray .int, 2) := by decide +kernel
theorem dX2_init_64 : decode cX2_init 64 = .ok (.putfield 40, 3) := by decide +kernel
theorem dX2_init_67 : decode cX2_init 67 = .ok (.aload_n 0, 1) := by decide +kernel
theorem dX2_init_68 : decode cX2_init 68 = .ok (.aload_n 1, 1) := by decide +kernel
theorem dX2_init_69 : decode cX2_init 69 = .ok (.putfield 43, 3) := by decide +kernel
theorem dX2_init_72 : decode cX2_init 72 = .ok (.iconst 0, 1) := by decide +kernel
theorem dX2_init_73 : decode cX2_init 73 = .ok (.istore_n 2, 1) := by decide +kernel
theorem dX2_init_74 : decode cX2_init 74 = .ok (.iload_n 2, 1) := by decide +kernel
theorem dX2_init_75 : decode cX2_init 75 = .ok (.aload_n 0, 1) := by decide +kernel
theorem dX2_init_76 : decode cX2_init 76 = .ok (.getfield 18, 3) := by decide +kernel
theorem dX2_init_79 : decode cX2_init 79 = .ok (.arraylength, 1) := by decide +kernel
theorem dX2_init_80 : decode cX2_init 80 = .ok (.if_icmp .ge 22, 3) := by decide +kernel
theorem dX2_init_83 : decode cX2_init 83 = .ok (.aload_n 0, 1) := by decide +kernel
theorem dX2_init_84 : decode cX2_init 84 = .ok (.getfield 18, 3) := by decide +kernel
theorem dX2_init_87 : decode cX2_init 87 = .ok (.iload_n 2, 1) := by decide +kernel
theorem dX2_init_88 : decode cX2_init 88 = .ok (.new 9, 3) := by decide +kernel
theorem dX2_init_91 : decode cX2_init 91 = .ok (.dup, 1) := by decide +kernel
theorem dX2_init_92 : decode cX2_init 92 = .ok (.invokespecial 11, 3) := by decide +kernel
theorem dX2_init_95 : decode cX2_init 95 = .ok (.aastore, 1) := by decide +kernel
theorem dX2_init_96 : decode cX2_init 96 = .ok (.iinc 2 1, 3) := by decide +kernel
theorem dX2_init_99 : decode cX2_init 99 = .ok (.goto (-25), 3) := by decide +kernel
theorem dX2_init_102 : decode cX2_init 102 = .ok (.return_, 1) := by decide +kernel
theorem dX2_planned_0 : decode cX2_planned 0 = .ok (.aload_n 0, 1) := by decide +kernel
theorem dX2_planned_1 : decode cX2_planned 1 = .ok (.getfield 18, 3) := by decide +kernel
theorem dX2_planned_4 : decode cX2_planned 4 = .ok (.iconst 0, 1) := by decide +kernel
theorem dX2_planned_5 : decode cX2_planned 5 = .ok (.aaload, 1) := by decide +kernel
theorem dX2_planned_6 : decode cX2_planned 6 = .ok (.aload_n 1, 1) := by decide +kernel
theorem dX2_planned_7 : decode cX2_planned 7 = .ok (.invokevirtual 47, 3) := by decide +kernel
theorem dX2_planned_10 : decode cX2_planned 10 = .ok (.aload_n 0, 1) := by decide +kernel
theorem dX2_planned_11 : decode cX2_planned 11 = .ok (.iconst 0, 1) := by decide +kernel
theorem dX2_planned_12 : decode cX2_planned 12 = .ok (.iload_n 2, 1) := by decide +kernel
theorem dX2_planned_13 : decode cX2_planned 13 = .ok (.invokevirtual 51, 3) := by decide +kernel
theorem dX2_planned_16 : decode cX2_planned 16 = .ok (.ireturn, 1) := by decide +kernel
theorem dX2_bestGain_0 : decode cX2_bestGain 0 = .ok (.iload_n 1, 1) := by decide +kernel
theorem dX2_bestGain_1 : decode cX2_bestGain 1 = .ok (.aload_n 0, 1) := by decide +kernel
theorem dX2_bestGain_2 : decode cX2_bestGain 2 = .ok (.getfield 18, 3) := by decide +kernel
theorem dX2_bestGain_5 : decode cX2_bestGain 5 = .ok (.arraylength, 1) := by decide +kernel
theorem dX2_bestGain_6 : decode cX2_bestGain 6 = .ok (.if_icmp .lt 5, 3) := by decide +kernel
theorem dX2_bestGain_9 : decode cX2_bestGain 9 = .ok (.iconst 0, 1) := by decide +kernel
theorem dX2_bestGain_10 : decode cX2_bestGain 10 = .ok (.ireturn, 1) := by decide +kernel
theorem dX2_bestGain_11 : decode cX2_bestGain 11 = .ok (.aload_n 0, 1) := by decide +kernel
theorem dX2_bestGain_12 : decode cX2_bestGain 12 = .ok (.getfield 18, 3) := by decide +kernel
theorem dX2_bestGain_15 : decode cX2_bestGain 15 = .ok (.iload_n 1, 1) := by decide +kernel
theorem dX2_bestGain_16 : decode cX2_bestGain 16 = .ok (.aaload, 1) := by decide +kernel
theorem dX2_bestGain_17 : decode cX2_bestGain 17 = .ok (.astore_n 3, 1) := by decide +kernel
theorem dX2_bestGain_18 : decode cX2_bestGain 18 = .ok (.aload_n 0, 1) := by decide +kernel
theorem dX2_bestGain_19 : decode cX2_bestGain 19 = .ok (.getfield 43, 3) := by decide +kernel
theorem dX2_bestGain_22 : decode cX2_bestGain 22 = .ok (.getfield 55, 3) := by decide +kernel
theorem dX2_bestGain_25 : decode cX2_bestGain 25 = .ok (.astore 4, 2) := by decide +kernel
theorem dX2_bestGain_27 : decode cX2_bestGain 27 = .ok (.aload_n 0, 1) := by decide +kernel
theorem dX2_bestGain_28 : decode cX2_bestGain 28 = .ok (.getfield 43, 3) := by decide +kernel
theorem dX2_bestGain_31 : decode cX2_bestGain 31 = .ok (.aload_n 3, 1) := by decide +kernel
theorem dX2_bestGain_32 : decode cX2_bestGain 32 = .ok (.aload_n 0, 1) := by decide +kernel
theorem dX2_bestGain_33 : decode cX2_bestGain 33 = .ok (.getfield 43, 3) := by decide +kernel
theorem dX2_bestGain_36 : decode cX2_bestGain 36 = .ok (.aload_n 3, 1) := by decide +kernel
theorem dX2_bestGain_37 : decode cX2_bestGain 37 = .ok (.getfield 61, 3) := by decide +kernel
theorem dX2_bestGain_40 : decode cX2_bestGain 40 = .ok (.invokevirtual 64, 3) := by decide +kernel
theorem dX2_bestGain_43 : decode cX2_bestGain 43 = .ok (.invokevirtual 68, 3) := by decide +kernel
theorem dX2_bestGain_46 : decode cX2_bestGain 46 = .ok (.iconst 0, 1) := by decide +kernel
theorem dX2_bestGain_47 : decode cX2_bestGain 47 = .ok (.istore 5, 2) := by decide +kernel
theorem dX2_bestGain_49 : decode cX2_bestGain 49 = .ok (.iconst (-1), 1) := by decide +kernel
theorem dX2_bestGain_50 : decode cX2_bestGain 50 = .ok (.istore 6, 2) := by decide +kernel
theorem dX2_bestGain_52 : decode cX2_bestGain 52 = .ok (.iconst 0, 1) := by decide +kernel
theorem dX2_bestGain_53 : decode cX2_bestGain 53 = .ok (.istore 7, 2) := by decide +kernel
theorem dX2_bestGain_55 : decode cX2_bestGain 55 = .ok (.iconst 0, 1) := by decide +kernel
theorem dX2_bestGain_56 : decode cX2_bestGain 56 = .ok (.istore 8, 2) := by decide +kernel
theorem dX2_bestGain_58 : decode cX2_bestGain 58 = .ok (.iload 8, 2) := by decide +kernel
theorem dX2_bestGain_60 : decode cX2_bestGain 60 = .ok (.aload 4, 2) := by decide +kernel
theorem dX2_bestGain_62 : decode cX2_bestGain 62 = .ok (.getfield 72, 3) := by decide +kernel
theorem dX2_bestGain_65 : decode cX2_bestGain 65 = .ok (.if_icmp .gt 112, 3) := by decide +kernel
theorem dX2_bestGain_68 : decode cX2_bestGain 68 = .ok (.iload 8, 2) := by decide +kernel
theorem dX2_bestGain_70 : decode cX2_bestGain 70 = .ok (.aload 4, 2) := by decide +kernel
theorem dX2_bestGain_72 : decode cX2_bestGain 72 = .ok (.getfield 72, 3) := by decide +kernel
theorem dX2_bestGain_75 : decode cX2_bestGain 75 = .ok (.if_icmp .ge 8, 3) := by decide +kernel
theorem dX2_bestGain_78 : decode cX2_bestGain 78 = .ok (.iload 8, 2) := by decide +kernel
theorem dX2_bestGain_80 : decode cX2_bestGain 80 = .ok (.goto 4, 3) := by decide +kernel
theorem dX2_bestGain_83 : decode cX2_bestGain 83 = .ok (.iconst (-1), 1) := by decide +kernel
theorem dX2_bestGain_84 : decode cX2_bestGain 84 = .ok (.istore 9, 2) := by decide +kernel
theorem dX2_bestGain_86 : decode cX2_bestGain 86 = .ok (.iload 9, 2) := by decide +kernel
theorem dX2_bestGain_88 : decode cX2_bestGain 88 = .ok (.iconst (-1), 1) := by decide +kernel
theorem dX2_bestGain_89 : decode cX2_bestGain 89 = .ok (.if_icmp .eq 21, 3) := by decide +kernel
theorem dX2_bestGain_92 : decode cX2_bestGain 92 = .ok (.aload 4, 2) := by decide +kernel
theorem dX2_bestGain_94 : decode cX2_bestGain 94 = .ok (.getfield 77, 3) := by decide +kernel
theorem dX2_bestGain_97 : decode cX2_bestGain 97 = .ok (.iload 9, 2) := by decide +kernel
theorem dX2_bestGain_99 : decode cX2_bestGain 99 = .ok (.iaload, 1) := by decide +kernel
theorem dX2_bestGain_100 : decode cX2_bestGain 100 = .ok (.aload_n 3, 1) := by decide +kernel
theorem dX2_bestGain_101 : decode cX2_bestGain 101 = .ok (.getfield 80, 3) := by decide +kernel
theorem dX2_bestGain_104 : decode cX2_bestGain 104 = .ok (.if_icmp .le 6, 3) := by decide +kernel
theorem dX2_bestGain_107 : decode cX2_bestGain 107 = .ok (.goto 64, 3) := by decide +kernel
theorem dX2_bestGain_110 : decode cX2_bestGain 110 = .ok (.iload 9, 2) := by decide +kernel
theorem dX2_bestGain_112 : decode cX2_bestGain 112 = .ok (.iconst (-1), 1) := by decide +kernel
theorem dX2_bestGain_113 : decode cX2_bestGain 113 = .ok (.if_icmp .ne 7, 3) := by decide +kernel
theorem dX2_bestGain_116 : decode cX2_bestGain 116 = .ok (.iconst 0, 1) := by decide +kernel
theorem dX2_bestGain_117 : decode cX2_bestGain 117 = .ok (.goto 11, 3) := by decide +kernel
theorem dX2_bestGain_120 : decode cX2_bestGain 120 = .ok (.aload 4, 2) := by decide +kernel
theorem dX2_bestGain_122 : decode cX2_bestGain 122 = .ok (.getfield 83, 3) := by decide +kernel
theorem dX2_bestGain_125 : decode cX2_bestGain 125 = .ok (.iload 9, 2) := by decide +kernel
theorem dX2_bestGain_127 : decode cX2_bestGain 127 = .ok (.iaload, 1) := by decide +kernel
theorem dX2_bestGain_128 : decode cX2_bestGain 128 = .ok (.istore 10, 2) := by decide +kernel
theorem dX2_bestGain_130 : decode cX2_bestGain 130 = .ok (.iload_n 2, 1) := by decide +kernel
theorem dX2_bestGain_131 : decode cX2_bestGain 131 = .ok (.iconst 1, 1) := by decide +kernel
theorem dX2_bestGain_132 : decode cX2_bestGain 132 = .ok (.if_icmp .le 16, 3) := by decide +kernel
theorem dX2_bestGain_135 : decode cX2_bestGain 135 = .ok (.iload 10, 2) := by decide +kernel
theorem dX2_bestGain_137 : decode cX2_bestGain 137 = .ok (.aload_n 0, 1) := by decide +kernel
theorem dX2_bestGain_138 : decode cX2_bestGain 138 = .ok (.iload_n 1, 1) := by decide +kernel
theorem dX2_bestGain_139 : decode cX2_bestGain 139 = .ok (.iload 9, 2) := by decide +kernel
theorem dX2_bestGain_141 : decode cX2_bestGain 141 = .ok (.iload_n 2, 1) := by decide +kernel
theorem dX2_bestGain_142 : decode cX2_bestGain 142 = .ok (.invokevirtual 86, 3) := by decide +kernel
theorem dX2_bestGain_145 : decode cX2_bestGain 145 = .ok (.iadd, 1) := by decide +kernel
theorem dX2_bestGain_146 : decode cX2_bestGain 146 = .ok (.istore 10, 2) := by decide +kernel
theorem dX2_bestGain_148 : decode cX2_bestGain 148 = .ok (.iload 7, 2) := by decide +kernel
theorem dX2_bestGain_150 : decode cX2_bestGain 150 = .ok (.ifCond .eq 10, 3) := by decide +kernel
theorem dX2_bestGain_153 : decode cX2_bestGain 153 = .ok (.iload 10, 2) := by decide +kernel
theorem dX2_bestGain_155 : decode cX2_bestGain 155 = .ok (.iload 5, 2) := by decide +kernel
theorem dX2_bestGain_157 : decode cX2_bestGain 157 = .ok (.if_icmp .le 14, 3) := by decide +kernel
theorem dX2_bestGain_160 : decode cX2_bestGain 160 = .ok (.iload 10, 2) := by decide +kernel
theorem dX2_bestGain_162 : decode cX2_bestGain 162 = .ok (.istore 5, 2) := by decide +kernel
theorem dX2_bestGain_164 : decode cX2_bestGain 164 = .ok (.iload 9, 2) := by decide +kernel
theorem dX2_bestGain_166 : decode cX2_bestGain 166 = .ok (.istore 6, 2) := by decide +kernel
theorem dX2_bestGain_168 : decode cX2_bestGain 168 = .ok (.iconst 1, 1) := by decide +kernel
theorem dX2_bestGain_169 : decode cX2_bestGain 169 = .ok (.istore 7, 2) := by decide +kernel
theorem dX2_bestGain_171 : decode cX2_bestGain 171 = .ok (.iinc 8 1, 3) := by decide +kernel
theorem dX2_bestGain_174 : decode cX2_bestGain 174 = .ok (.goto (-116), 3) := by decide +kernel
theorem dX2_bestGain_177 : decode cX2_bestGain 177 = .ok (.iload_n 1, 1) := by decide +kernel
theorem dX2_bestGain_178 : decode cX2_bestGain 178 = .ok (.ifCond .ne 9, 3) := by decide +kernel
theorem dX2_bestGain_181 : decode cX2_bestGain 181 = .ok (.aload_n 0, 1) := by decide +kernel
theorem dX2_bestGain_182 : decode cX2_bestGain 182 = .ok (.iload 6, 2) := by decide +kernel
theorem dX2_bestGain_184 : decode cX2_bestGain 184 = .ok (.putfield 22, 3) := by decide +kernel
theorem dX2_bestGain_187 : decode cX2_bestGain 187 = .ok (.iload 5, 2) := by decide +kernel
theorem dX2_bestGain_189 : decode cX2_bestGain 189 = .ok (.ireturn, 1) := by decide +kernel
theorem dX2_gainBehind_0 : decode cX2_gainBehind 0 = .ok (.iload_n 1, 1) := by decide +kernel
theorem dX2_gainBehind_1 : decode cX2_gainBehind 1 = .ok (.iconst 1, 1) := by decide +kernel
theorem dX2_gainBehind_2 : decode cX2_gainBehind 2 = .ok (.iadd, 1) := by decide +kernel
theorem dX2_gainBehind_3 : decode cX2_gainBehind 3 = .ok (.aload_n 0, 1) := by decide +kernel
theorem dX2_gainBehind_4 : decode cX2_gainBehind 4 = .ok (.getfield 18, 3) := by decide +kernel
theorem dX2_gainBehind_7 : decode cX2_gainBehind 7 = .ok (.arraylength, 1) := by decide +kernel
theorem dX2_gainBehind_8 : decode cX2_gainBehind 8 = .ok (.if_icmp .lt 5, 3) := by decide +kernel
theorem dX2_gainBehind_11 : decode cX2_gainBehind 11 = .ok (.iconst 0, 1) := by decide +kernel
theorem dX2_gainBehind_12 : decode cX2_gainBehind 12 = .ok (.ireturn, 1) := by decide +kernel
theorem dX2_gainBehind_13 : decode cX2_gainBehind 13 = .ok (.aload_n 0, 1) := by decide +kernel
theorem dX2_gainBehind_14 : decode cX2_gainBehind 14 = .ok (.getfield 18, 3) := by decide +kernel
theorem dX2_gainBehind_17 : decode cX2_gainBehind 17 = .ok (.iload_n 1, 1) := by decide +kernel
theorem dX2_gainBehind_18 : decode cX2_gainBehind 18 = .ok (.iconst 1, 1) := by decide +kernel
theorem dX2_gainBehind_19 : decode cX2_gainBehind 19 = .ok (.iadd, 1) := by decide +kernel
theorem dX2_gainBehind_20 : decode cX2_gainBehind 20 = .ok (.aaload, 1) := by decide +kernel
theorem dX2_gainBehind_21 : decode cX2_gainBehind 21 = .ok (.astore 4, 2) := by decide +kernel
theorem dX2_gainBehind_23 : decode cX2_gainBehind 23 = .ok (.aload_n 0, 1) := by decide +kernel
theorem dX2_gainBehind_24 : decode cX2_gainBehind 24 = .ok (.getfield 18, 3) := by decide +kernel
theorem dX2_gainBehind_27 : decode cX2_gainBehind 27 = .ok (.iload_n 1, 1) := by decide +kernel
theorem dX2_gainBehind_28 : decode cX2_gainBehind 28 = .ok (.aaload, 1) := by decide +kernel
theorem dX2_gainBehind_29 : decode cX2_gainBehind 29 = .ok (.getfield 90, 3) := by decide +kernel
theorem dX2_gainBehind_32 : decode cX2_gainBehind 32 = .ok (.istore 5, 2) := by decide +kernel
theorem dX2_gainBehind_34 : decode cX2_gainBehind 34 = .ok (.aload 4, 2) := by decide +kernel
theorem dX2_gainBehind_36 : decode cX2_gainBehind 36 = .ok (.aload_n 0, 1) := by decide +kernel
theorem dX2_gainBehind_37 : decode cX2_gainBehind 37 = .ok (.getfield 18, 3) := by decide +kernel
theorem dX2_gainBehind_40 : decode cX2_gainBehind 40 = .ok (.iload_n 1, 1) := by decide +kernel
theorem dX2_gainBehind_41 : decode cX2_gainBehind 41 = .ok (.aaload, 1) := by decide +kernel
theorem dX2_gainBehind_42 : decode cX2_gainBehind 42 = .ok (.invokevirtual 47, 3) := by decide +kernel
theorem dX2_gainBehind_45 : decode cX2_gainBehind 45 = .ok (.aload_n 0, 1) := by decide +kernel
theorem dX2_gainBehind_46 : decode cX2_gainBehind 46 = .ok (.getfield 43, 3) := by decide +kernel
theorem dX2_gainBehind_49 : decode cX2_gainBehind 49 = .ok (.aload 4, 2) := by decide +kernel
theorem dX2_gainBehind_51 : decode cX2_gainBehind 51 = .ok (.iload_n 2, 1) := by decide +kernel
theorem dX2_gainBehind_52 : decode cX2_gainBehind 52 = .ok (.invokevirtual 93, 3) := by decide +kernel
theorem dX2_gainBehind_55 : decode cX2_gainBehind 55 = .ok (.pop, 1) := by decide +kernel
theorem dX2_gainBehind_56 : decode cX2_gainBehind 56 = .ok (.aload_n 0, 1) := by decide +kernel
theorem dX2_gainBehind_57 : decode cX2_gainBehind 57 = .ok (.getfield 43, 3) := by decide +kernel
theorem dX2_gainBehind_60 : decode cX2_gainBehind 60 = .ok (.aload 4, 2) := by decide +kernel
theorem dX2_gainBehind_62 : decode cX2_gainBehind 62 = .ok (.invokevirtual 97, 3) := by decide +kernel
theorem dX2_gainBehind_65 : decode cX2_gainBehind 65 = .ok (.aload_n 0, 1) := by decide +kernel
theorem dX2_gainBehind_66 : decode cX2_gainBehind 66 = .ok (.getfield 43, 3) := by decide +kernel
theorem dX2_gainBehind_69 : decode cX2_gainBehind 69 = .ok (.aload 4, 2) := by decide +kernel
theorem dX2_gainBehind_71 : decode cX2_gainBehind 71 = .ok (.invokevirtual 100, 3) := by decide +kernel
theorem dX2_gainBehind_74 : decode cX2_gainBehind 74 = .ok (.aload 4, 2) := by decide +kernel
theorem dX2_gainBehind_76 : decode cX2_gainBehind 76 = .ok (.getfield 90, 3) := by decide +kernel
theorem dX2_gainBehind_79 : decode cX2_gainBehind 79 = .ok (.iload 5, 2) := by decide +kernel
theorem dX2_gainBehind_81 : decode cX2_gainBehind 81 = .ok (.if_icmp .ne 7, 3) := by decide +kernel
theorem dX2_gainBehind_84 : decode cX2_gainBehind 84 = .ok (.iconst 1, 1) := by decide +kernel
theorem dX2_gainBehind_85 : decode cX2_gainBehind 85 = .ok (.goto 4, 3) := by decide +kernel
theorem dX2_gainBehind_88 : decode cX2_gainBehind 88 = .ok (.iconst 0, 1) := by decide +kernel
theorem dX2_gainBehind_89 : decode cX2_gainBehind 89 = .ok (.istore 6, 2) := by decide +kernel
theorem dX2_gainBehind_91 : decode cX2_gainBehind 91 = .ok (.aload_n 0, 1) := by decide +kernel
theorem dX2_gainBehind_92 : decode cX2_gainBehind 92 = .ok (.iload_n 1, 1) := by decide +kernel
theorem dX2_gainBehind_93 : decode cX2_gainBehind 93 = .ok (.iconst 1, 1) := by decide +kernel
theorem dX2_gainBehind_94 : decode cX2_gainBehind 94 = .ok (.iadd, 1) := by decide +kernel
theorem dX2_gainBehind_95 : decode cX2_gainBehind 95 = .ok (.iload_n 3, 1) := by decide +kernel
theorem dX2_gainBehind_96 : decode cX2_gainBehind 96 = .ok (.iconst 1, 1) := by decide +kernel
theorem dX2_gainBehind_97 : decode cX2_gainBehind 97 = .ok (.isub, 1) := by decide +kernel
theorem dX2_gainBehind_98 : decode cX2_gainBehind 98 = .ok (.invokevirtual 51, 3) := by decide +kernel
theorem dX2_gainBehind_101 : decode cX2_gainBehind 101 = .ok (.istore 7, 2) := by decide +kernel
theorem dX2_gainBehind_103 : decode cX2_gainBehind 103 = .ok (.iload 6, 2) := by decide +kernel
theorem dX2_gainBehind_105 : decode cX2_gainBehind 105 = .ok (.ifCond .eq 8, 3) := by decide +kernel
theorem dX2_gainBehind_108 : decode cX2_gainBehind 108 = .ok (.iload 7, 2) := by decide +kernel
theorem dX2_gainBehind_110 : decode cX2_gainBehind 110 = .ok (.goto 6, 3) := by decide +kernel
theorem dX2_gainBehind_113 : decode cX2_gainBehind 113 = .ok (.iload 7, 2) := by decide +kernel
theorem dX2_gainBehind_115 : decode cX2_gainBehind 115 = .ok (.ineg, 1) := by decide +kernel
theorem dX2_gainBehind_116 : decode cX2_gainBehind 116 = .ok (.ireturn, 1) := by decide +kernel
theorem dX2_fits_0 : decode cX2_fits 0 = .ok (.aload_n 0, 1) := by decide +kernel
theorem dX2_fits_1 : decode cX2_fits 1 = .ok (.getfield 12, 3) := by decide +kernel
theorem dX2_fits_4 : decode cX2_fits 4 = .ok (.aload_n 1, 1) := by decide +kernel
theorem dX2_fits_5 : decode cX2_fits 5 = .ok (.invokevirtual 47, 3) := by decide +kernel
theorem dX2_fits_8 : decode cX2_fits 8 = .ok (.iconst 1, 1) := by decide +kernel
theorem dX2_fits_9 : decode cX2_fits 9 = .ok (.istore 6, 2) := by decide +kernel
theorem dX2_fits_11 : decode cX2_fits 11 = .ok (.iload 6, 2) := by decide +kernel
theorem dX2_fits_13 : decode cX2_fits 13 = .ok (.iload 5, 2) := by decide +kernel
theorem dX2_fits_15 : decode cX2_fits 15 = .ok (.if_icmp .gt 109, 3) := by decide +kernel
theorem dX2_fits_18 : decode cX2_fits 18 = .ok (.iload 6, 2) := by decide +kernel
theorem dX2_fits_20 : decode cX2_fits 20 = .ok (.bipush 30, 2) := by decide +kernel
theorem dX2_fits_22 : decode cX2_fits 22 = .ok (.if_icmp .gt 102, 3) := by decide +kernel
theorem dX2_fits_25 : decode cX2_fits 25 = .ok (.iload 6, 2) := by decide +kernel
theorem dX2_fits_27 : decode cX2_fits 27 = .ok (.iload_n 3, 1) := by decide +kernel
theorem dX2_fits_28 : decode cX2_fits 28 = .ok (.if_icmp .ne 8, 3) := by decide +kernel
theorem dX2_fits_31 : decode cX2_fits 31 = .ok (.iload 4, 2) := by decide +kernel
theorem dX2_fits_33 : decode cX2_fits 33 = .ok (.goto 21, 3) := by decide +kernel
theorem dX2_fits_36 : decode cX2_fits 36 = .ok (.aload_n 0, 1) := by decide +kernel
theorem dX2_fits_37 : decode cX2_fits 37 = .ok (.getfield 43, 3) := by decide +kernel
theorem dX2_fits_40 : decode cX2_fits 40 = .ok (.aload_n 0, 1) := by decide +kernel
theorem dX2_fits_41 : decode cX2_fits 41 = .ok (.getfield 12, 3) := by decide +kernel
theorem dX2_fits_44 : decode cX2_fits 44 = .ok (.aload_n 0, 1) := by decide +kernel
theorem dX2_fits_45 : decode cX2_fits 45 = .ok (.getfield 12, 3) := by decide +kernel
theorem dX2_fits_48 : decode cX2_fits 48 = .ok (.getfield 90, 3) := by decide +kernel
theorem dX2_fits_51 : decode cX2_fits 51 = .ok (.invokevirtual 103, 3) := by decide +kernel
theorem dX2_fits_54 : decode cX2_fits 54 = .ok (.istore 7, 2) := by decide +kernel
theorem dX2_fits_56 : decode cX2_fits 56 = .ok (.aload_n 0, 1) := by decide +kernel
theorem dX2_fits_57 : decode cX2_fits 57 = .ok (.getfield 43, 3) := by decide +kernel
theorem dX2_fits_60 : decode cX2_fits 60 = .ok (.aload_n 0, 1) := by decide +kernel
theorem dX2_fits_61 : decode cX2_fits 61 = .ok (.getfield 12, 3) := by decide +kernel
theorem dX2_fits_64 : decode cX2_fits 64 = .ok (.aload_n 0, 1) := by decide +kernel
theorem dX2_fits_65 : decode cX2_fits 65 = .ok (.getfield 43, 3) := by decide +kernel
theorem dX2_fits_68 : decode cX2_fits 68 = .ok (.aload_n 0, 1) := by decide +kernel
theorem dX2_fits_69 : decode cX2_fits 69 = .ok (.getfield 12, 3) := by decide +kernel
theorem dX2_fits_72 : decode cX2_fits 72 = .ok (.getfield 61, 3) := by decide +kernel
theorem dX2_fits_75 : decode cX2_fits 75 = .ok (.invokevirtual 64, 3) := by decide +kernel
theorem dX2_fits_78 : decode cX2_fits 78 = .ok (.iload 7, 2) := by decide +kernel
theorem dX2_fits_80 : decode cX2_fits 80 = .ok (.invokevirtual 107, 3) := by decide +kernel
theorem dX2_fits_83 : decode cX2_fits 83 = .ok (.pop, 1) := by decide +kernel
theorem dX2_fits_84 : decode cX2_fits 84 = .ok (.aload_n 2, 1) := by decide +kernel
theorem dX2_fits_85 : decode cX2_fits 85 = .ok (.iload 6, 2) := by decide +kernel
theorem dX2_fits_87 : decode cX2_fits 87 = .ok (.aload_n 0, 1) := by decide +kernel
theorem dX2_fits_88 : decode cX2_fits 88 = .ok (.getfield 12, 3) := by decide +kernel
theorem dX2_fits_91 : decode cX2_fits 91 = .ok (.getfield 80, 3) := by decide +kernel
theorem dX2_fits_94 : decode cX2_fits 94 = .ok (.invokevirtual 111, 3) := by decide +kernel
theorem dX2_fits_97 : decode cX2_fits 97 = .ok (.ifCond .ne 5, 3) := by decide +kernel
theorem dX2_fits_100 : decode cX2_fits 100 = .ok (.iconst 0, 1) := by decide +kernel
theorem dX2_fits_101 : decode cX2_fits 101 = .ok (.ireturn, 1) := by decide +kernel
theorem dX2_fits_102 : decode cX2_fits 102 = .ok (.aload_n 0, 1) := by decide +kernel
theorem dX2_fits_103 : decode cX2_fits 103 = .ok (.getfield 26, 3) := by decide +kernel
theorem dX2_fits_106 : decode cX2_fits 106 = .ok (.iload 6, 2) := by decide +kernel
theorem dX2_fits_108 : decode cX2_fits 108 = .ok (.iconst 1, 1) := by decide +kernel
theorem dX2_fits_109 : decode cX2_fits 109 = .ok (.isub, 1) := by decide +kernel
theorem dX2_fits_110 : decode cX2_fits 110 = .ok (.aload_n 0, 1) := by decide +kernel
theorem dX2_fits_111 : decode cX2_fits 111 = .ok (.getfield 12, 3) := by decide +kernel
theorem dX2_fits_114 : decode cX2_fits 114 = .ok (.getfield 80, 3) := by decide +kernel
theorem dX2_fits_117 : decode cX2_fits 117 = .ok (.iastore, 1) := by decide +kernel
theorem dX2_fits_118 : decode cX2_fits 118 = .ok (.iinc 6 1, 3) := by decide +kernel
theorem dX2_fits_121 : decode cX2_fits 121 = .ok (.goto (-110), 3) := by decide +kernel
theorem dX2_fits_124 : decode cX2_fits 124 = .ok (.iconst 1, 1) := by decide +kernel
theorem dX2_fits_125 : decode cX2_fits 125 = .ok (.ireturn, 1) := by decide +kernel
theorem dX2_survey_0 : decode cX2_survey 0 = .ok (.iconst 0, 1) := by decide +kernel
theorem dX2_survey_1 : decode cX2_survey 1 = .ok (.istore_n 3, 1) := by decide +kernel
theorem dX2_survey_2 : decode cX2_survey 2 = .ok (.iload_n 3, 1) := by decide +kernel
theorem dX2_survey_3 : decode cX2_survey 3 = .ok (.aload_n 0, 1) := by decide +kernel
theorem dX2_survey_4 : decode cX2_survey 4 = .ok (.getfield 30, 3) := by decide +kernel
theorem dX2_survey_7 : decode cX2_survey 7 = .ok (.arraylength, 1) := by decide +kernel
theorem dX2_survey_8 : decode cX2_survey 8 = .ok (.if_icmp .ge 16, 3) := by decide +kernel
theorem dX2_survey_11 : decode cX2_survey 11 = .ok (.aload_n 0, 1) := by decide +kernel
theorem dX2_survey_12 : decode cX2_survey 12 = .ok (.getfield 30, 3) := by decide +kernel
theorem dX2_survey_15 : decode cX2_survey 15 = .ok (.iload_n 3, 1) := by decide +kernel
theorem dX2_survey_16 : decode cX2_survey 16 = .ok (.lconst 0, 1) := by decide +kernel
theorem dX2_survey_17 : decode cX2_survey 17 = .ok (.lastore, 1) := by decide +kernel
theorem dX2_survey_18 : decode cX2_survey 18 = .ok (.iinc 3 1, 3) := by decide +kernel
theorem dX2_survey_21 : decode cX2_survey 21 = .ok (.goto (-19), 3) := by decide +kernel
theorem dX2_survey_24 : decode cX2_survey 24 = .ok (.iconst 0, 1) := by decide +kernel
theorem dX2_survey_25 : decode cX2_survey 25 = .ok (.istore_n 3, 1) := by decide +kernel
theorem dX2_survey_26 : decode cX2_survey 26 = .ok (.iload_n 3, 1) := by decide +kernel
theorem dX2_survey_27 : decode cX2_survey 27 = .ok (.aload_n 0, 1) := by decide +kernel
theorem dX2_survey_28 : decode cX2_survey 28 = .ok (.getfield 34, 3) := by decide +kernel
theorem dX2_survey_31 : decode cX2_survey 31 = .ok (.arraylength, 1) := by decide +kernel
theorem dX2_survey_32 : decode cX2_survey 32 = .ok (.if_icmp .ge 16, 3) := by decide +kernel
theorem dX2_survey_35 : decode cX2_survey 35 = .ok (.aload_n 0, 1) := by decide +kernel
theorem dX2_survey_36 : decode cX2_survey 36 = .ok (.getfield 34, 3) := by decide +kernel
theorem dX2_survey_39 : decode cX2_survey 39 = .ok (.iload_n 3, 1) := by decide +kernel
theorem dX2_survey_40 : decode cX2_survey 40 = .ok (.iconst 0, 1) := by decide +kernel
theorem dX2_survey_41 : decode cX2_survey 41 = .ok (.iastore, 1) := by decide +kernel
theorem dX2_survey_42 : decode cX2_survey 42 = .ok (.iinc 3 1, 3) := by decide +kernel
theorem dX2_survey_45 : decode cX2_survey 45 = .ok (.goto (-19), 3) := by decide +kernel
theorem dX2_survey_48 : decode cX2_survey 48 = .ok (.iconst 1, 1) := by decide +kernel
theorem dX2_survey_49 : decode cX2_survey 49 = .ok (.istore_n 3, 1) := by decide +kernel
theorem dX2_survey_50 : decode cX2_survey 50 = .ok (.iload_n 3, 1) := by decide +kernel
theorem dX2_survey_51 : decode cX2_survey 51 = .ok (.bipush 12, 2) := by decide +kernel
theorem dX2_survey_53 : decode cX2_survey 53 = .ok (.if_icmp .gt 51, 3) := by decide +kernel
theorem dX2_survey_56 : decode cX2_survey 56 = .ok (.iconst 0, 1) := by decide +kernel
theorem dX2_survey_57 : decode cX2_survey 57 = .ok (.istore 4, 2) := by decide +kernel
theorem dX2_survey_59 : decode cX2_survey 59 = .ok (.iload 4, 2) := by decide +kernel
theorem dX2_survey_61 : decode cX2_survey 61 = .ok (.aload_n 0, 1) := by decide +kernel
theorem dX2_survey_62 : decode cX2_survey 62 = .ok (.getfield 43, 3) := by decide +kernel
theorem dX2_survey_65 : decode cX2_survey 65 = .ok (.getfield 55, 3) := by decide +kernel
theorem dX2_survey_68 : decode cX2_survey 68 = .ok (.getfield 72, 3) := by decide +kernel
theorem dX2_survey_71 : decode cX2_survey 71 = .ok (.if_icmp .ge 27, 3) := by decide +kernel
theorem dX2_survey_74 : decode cX2_survey 74 = .ok (.aload_n 0, 1) := by decide +kernel
theorem dX2_survey_75 : decode cX2_survey 75 = .ok (.aload_n 1, 1) := by decide +kernel
theorem dX2_survey_76 : decode cX2_survey 76 = .ok (.aload_n 2, 1) := by decide +kernel
theorem dX2_survey_77 : decode cX2_survey 77 = .ok (.iload_n 3, 1) := by decide +kernel
theorem dX2_survey_78 : decode cX2_survey 78 = .ok (.iload 4, 2) := by decide +kernel
theorem dX2_survey_80 : decode cX2_survey 80 = .ok (.bipush 30, 2) := by decide +kernel
theorem dX2_survey_82 : decode cX2_survey 82 = .ok (.invokevirtual 117, 3) := by decide +kernel
theorem dX2_survey_85 : decode cX2_survey 85 = .ok (.ifCond .eq 7, 3) := by decide +kernel
theorem dX2_survey_88 : decode cX2_survey 88 = .ok (.aload_n 0, 1) := by decide +kernel
theorem dX2_survey_89 : decode cX2_survey 89 = .ok (.invokevirtual 121, 3) := by decide +kernel
theorem dX2_survey_92 : decode cX2_survey 92 = .ok (.iinc 4 1, 3) := by decide +kernel
theorem dX2_survey_95 : decode cX2_survey 95 = .ok (.goto (-36), 3) := by decide +kernel
theorem dX2_survey_98 : decode cX2_survey 98 = .ok (.iinc 3 1, 3) := by decide +kernel
theorem dX2_survey_101 : decode cX2_survey 101 = .ok (.goto (-51), 3) := by decide +kernel
theorem dX2_survey_104 : decode cX2_survey 104 = .ok (.return_, 1) := by decide +kernel
theorem dX2_markStores_0 : decode cX2_markStores 0 = .ok (.iconst 0, 1) := by decide +kernel
theorem dX2_markStores_1 : decode cX2_markStores 1 = .ok (.istore_n 1, 1) := by decide +kernel
theorem dX2_markStores_2 : decode cX2_markStores 2 = .ok (.iload_n 1, 1) := by decide +kernel
theorem dX2_markStores_3 : decode cX2_markStores 3 = .ok (.bipush 30, 2) := by decide +kernel
theorem dX2_markStores_5 : decode cX2_markStores 5 = .ok (.if_icmp .ge 82, 3) := by decide +kernel
theorem dX2_markStores_8 : decode cX2_markStores 8 = .ok (.aload_n 0, 1) := by decide +kernel
theorem dX2_markStores_9 : decode cX2_markStores 9 = .ok (.getfield 26, 3) := by decide +kernel
theorem dX2_markStores_12 : decode cX2_markStores 12 = .ok (.iload_n 1, 1) := by decide +kernel
theorem dX2_markStores_13 : decode cX2_markStores 13 = .ok (.iaload, 1) := by decide +kernel
theorem dX2_markStores_14 : decode cX2_markStores 14 = .ok (.istore_n 2, 1) := by decide +kernel
theorem dX2_markStores_15 : decode cX2_markStores 15 = .ok (.iload_n 1, 1) := by decide +kernel
theorem dX2_markStores_16 : decode cX2_markStores 16 = .ok (.bipush 16, 2) := by decide +kernel
theorem dX2_markStores_18 : decode cX2_markStores 18 = .ok (.imul, 1) := by decide +kernel
theorem dX2_markStores_19 : decode cX2_markStores 19 = .ok (.iload_n 2, 1) := by decide +kernel
theorem dX2_markStores_20 : decode cX2_markStores 20 = .ok (.bipush 64, 2) := by decide +kernel
theorem dX2_markStores_22 : decode cX2_markStores 22 = .ok (.idiv, 1) := by decide +kernel
theorem dX2_markStores_23 : decode cX2_markStores 23 = .ok (.iadd, 1) := by decide +kernel
theorem dX2_markStores_24 : decode cX2_markStores 24 = .ok (.istore_n 3, 1) := by decide +kernel
theorem dX2_markStores_25 : decode cX2_markStores 25 = .ok (.lconst 1, 1) := by decide +kernel
theorem dX2_markStores_26 : decode cX2_markStores 26 = .ok (.iload_n 2, 1) := by decide +kernel
theorem dX2_markStores_27 : decode cX2_markStores 27 = .ok (.bipush 64, 2) := by decide +kernel
theorem dX2_markStores_29 : decode cX2_markStores 29 = .ok (.irem, 1) := by decide +kernel
theorem dX2_markStores_30 : decode cX2_markStores 30 = .ok (.lshl, 1) := by decide +kernel
theorem dX2_markStores_31 : decode cX2_markStores 31 = .ok (.lstore 4, 2) := by decide +kernel
theorem dX2_markStores_33 : decode cX2_markStores 33 = .ok (.iload_n 2, 1) := by decide +kernel
theorem dX2_markStores_34 : decode cX2_markStores 34 = .ok (.ifCond .lt 47, 3) := by decide +kernel
theorem dX2_markStores_37 : decode cX2_markStores 37 = .ok (.iload_n 3, 1) := by decide +kernel
theorem dX2_markStores_38 : decode cX2_markStores 38 = .ok (.aload_n 0, 1) := by decide +kernel
theorem dX2_markStores_39 : decode cX2_markStores 39 = .ok (.getfield 30, 3) := by decide +kernel
theorem dX2_markStores_42 : decode cX2_markStores 42 = .ok (.arraylength, 1) := by decide +kernel
theorem dX2_markStores_43 : decode cX2_markStores 43 = .ok (.if_icmp .ge 38, 3) := by decide +kernel
theorem dX2_markStores_46 : decode cX2_markStores 46 = .ok (.aload_n 0, 1) := by decide +kernel
theorem dX2_markStores_47 : decode cX2_markStores 47 = .ok (.getfield 30, 3) := by decide +kernel
theorem dX2_markStores_50 : decode cX2_markStores 50 = .ok (.iload_n 3, 1) := by decide +kernel
theorem dX2_markStores_51 : decode cX2_markStores 51 = .ok (.laload, 1) := by decide +kernel
theorem dX2_markStores_52 : decode cX2_markStores 52 = .ok (.lload 4, 2) := by decide +kernel
theorem dX2_markStores_54 : decode cX2_markStores 54 = .ok (.land, 1) := by decide +kernel
theorem dX2_markStores_55 : decode cX2_markStores 55 = .ok (.lconst 0, 1) := by decide +kernel
theorem dX2_markStores_56 : decode cX2_markStores 56 = .ok (.lcmp, 1) := by decide +kernel
theorem dX2_markStores_57 : decode cX2_markStores 57 = .ok (.ifCond .ne 24, 3) := by decide +kernel
theorem dX2_markStores_60 : decode cX2_markStores 60 = .ok (.aload_n 0, 1) := by decide +kernel
theorem dX2_markStores_61 : decode cX2_markStores 61 = .ok (.getfield 30, 3) := by decide +kernel
theorem dX2_markStores_64 : decode cX2_markStores 64 = .ok (.iload_n 3, 1) := by decide +kernel
theorem dX2_markStores_65 : decode cX2_markStores 65 = .ok (.dup2, 1) := by decide +kernel
theorem dX2_markStores_66 : decode cX2_markStores 66 = .ok (.laload, 1) := by decide +kernel
theorem dX2_markStores_67 : decode cX2_markStores 67 = .ok (.lload 4, 2) := by decide +kernel
theorem dX2_markStores_69 : decode cX2_markStores 69 = .ok (.lor, 1) := by decide +kernel
theorem dX2_markStores_70 : decode cX2_markStores 70 = .ok (.lastore, 1) := by decide +kernel
theorem dX2_markStores_71 : decode cX2_markStores 71 = .ok (.aload_n 0, 1) := by decide +kernel
theorem dX2_markStores_72 : decode cX2_markStores 72 = .ok (.getfield 34, 3) := by decide +kernel
theorem dX2_markStores_75 : decode cX2_markStores 75 = .ok (.iload_n 1, 1) := by decide +kernel
theorem dX2_markStores_76 : decode cX2_markStores 76 = .ok (.dup2, 1) := by decide +kernel
theorem dX2_markStores_77 : decode cX2_markStores 77 = .ok (.iaload, 1) := by decide +kernel
theorem dX2_markStores_78 : decode cX2_markStores 78 = .ok (.iconst 1, 1) := by decide +kernel
theorem dX2_markStores_79 : decode cX2_markStores 79 = .ok (.iadd, 1) := by decide +kernel
theorem dX2_markStores_80 : decode cX2_markStores 80 = .ok (.iastore, 1) := by decide +kernel
theorem dX2_markStores_81 : decode cX2_markStores 81 = .ok (.iinc 1 1, 3) := by decide +kernel
theorem dX2_markStores_84 : decode cX2_markStores 84 = .ok (.goto (-82), 3) := by decide +kernel
theorem dX2_markStores_87 : decode cX2_markStores 87 = .ok (.return_, 1) := by decide +kernel
theorem dX2_playOut_0 : decode cX2_playOut 0 = .ok (.aload_n 0, 1) := by decide +kernel
theorem dX2_playOut_1 : decode cX2_playOut 1 = .ok (.getfield 43, 3) := by decide +kernel
theorem dX2_playOut_4 : decode cX2_playOut 4 = .ok (.getfield 55, 3) := by decide +kernel
theorem dX2_playOut_7 : decode cX2_playOut 7 = .ok (.astore 4, 2) := by decide +kernel
theorem dX2_playOut_9 : decode cX2_playOut 9 = .ok (.iconst 0, 1) := by decide +kernel
theorem dX2_playOut_10 : decode cX2_playOut 10 = .ok (.istore 5, 2) := by decide +kernel
theorem dX2_playOut_12 : decode cX2_playOut 12 = .ok (.iload 5, 2) := by decide +kernel
theorem dX2_playOut_14 : decode cX2_playOut 14 = .ok (.iconst 4, 1) := by decide +kernel
theorem dX2_playOut_15 : decode cX2_playOut 15 = .ok (.if_icmp .ge 170, 3) := by decide +kernel
theorem dX2_playOut_18 : decode cX2_playOut 18 = .ok (.iload 5, 2) := by decide +kernel
theorem dX2_playOut_20 : decode cX2_playOut 20 = .ok (.iconst 2, 1) := by decide +kernel
theorem dX2_playOut_21 : decode cX2_playOut 21 = .ok (.if_icmp .ge 7, 3) := by decide +kernel
theorem dX2_playOut_24 : decode cX2_playOut 24 = .ok (.iload_n 2, 1) := by decide +kernel
theorem dX2_playOut_25 : decode cX2_playOut 25 = .ok (.goto 4, 3) := by decide +kernel
theorem dX2_playOut_28 : decode cX2_playOut 28 = .ok (.iload_n 3, 1) := by decide +kernel
theorem dX2_playOut_29 : decode cX2_playOut 29 = .ok (.istore 6, 2) := by decide +kernel
theorem dX2_playOut_31 : decode cX2_playOut 31 = .ok (.iload 5, 2) := by decide +kernel
theorem dX2_playOut_33 : decode cX2_playOut 33 = .ok (.iconst 2, 1) := by decide +kernel
theorem dX2_playOut_34 : decode cX2_playOut 34 = .ok (.irem, 1) := by decide +kernel
theorem dX2_playOut_35 : decode cX2_playOut 35 = .ok (.ifCond .ne 7, 3) := by decide +kernel
theorem dX2_playOut_38 : decode cX2_playOut 38 = .ok (.iload_n 2, 1) := by decide +kernel
theorem dX2_playOut_39 : decode cX2_playOut 39 = .ok (.goto 4, 3) := by decide +kernel
theorem dX2_playOut_42 : decode cX2_playOut 42 = .ok (.iload_n 3, 1) := by decide +kernel
theorem dX2_playOut_43 : decode cX2_playOut 43 = .ok (.istore 7, 2) := by decide +kernel
theorem dX2_playOut_45 : decode cX2_playOut 45 = .ok (.iload 6, 2) := by decide +kernel
theorem dX2_playOut_47 : decode cX2_playOut 47 = .ok (.iload 7, 2) := by decide +kernel
theorem dX2_playOut_49 : decode cX2_playOut 49 = .ok (.if_icmp .ne 7, 3) := by decide +kernel
theorem dX2_playOut_52 : decode cX2_playOut 52 = .ok (.iconst 3, 1) := by decide +kernel
theorem dX2_playOut_53 : decode cX2_playOut 53 = .ok (.goto 4, 3) := by decide +kernel
theorem dX2_playOut_56 : decode cX2_playOut 56 = .ok (.iconst 0, 1) := by decide +kernel
theorem dX2_playOut_57 : decode cX2_playOut 57 = .ok (.istore 8, 2) := by decide +kernel
theorem dX2_playOut_59 : decode cX2_playOut 59 = .ok (.aload_n 0, 1) := by decide +kernel
theorem dX2_playOut_60 : decode cX2_playOut 60 = .ok (.getfield 12, 3) := by decide +kernel
theorem dX2_playOut_63 : decode cX2_playOut 63 = .ok (.aload_n 1, 1) := by decide +kernel
theorem dX2_playOut_64 : decode cX2_playOut 64 = .ok (.invokevirtual 47, 3) := by decide +kernel
theorem dX2_playOut_67 : decode cX2_playOut 67 = .ok (.aload_n 0, 1) := by decide +kernel
theorem dX2_playOut_68 : decode cX2_playOut 68 = .ok (.getfield 43, 3) := by decide +kernel
theorem dX2_playOut_71 : decode cX2_playOut 71 = .ok (.aload_n 0, 1) := by decide +kernel
theorem dX2_playOut_72 : decode cX2_playOut 72 = .ok (.getfield 12, 3) := by decide +kernel
theorem dX2_playOut_75 : decode cX2_playOut 75 = .ok (.aload_n 0, 1) := by decide +kernel
theorem dX2_playOut_76 : decode cX2_playOut 76 = .ok (.getfield 43, 3) := by decide +kernel
theorem dX2_playOut_79 : decode cX2_playOut 79 = .ok (.aload_n 0, 1) := by decide +kernel
theorem dX2_playOut_80 : decode cX2_playOut 80 = .ok (.getfield 12, 3) := by decide +kernel
theorem dX2_playOut_83 : decode cX2_playOut 83 = .ok (.getfield 61, 3) := by decide +kernel
theorem dX2_playOut_86 : decode cX2_playOut 86 = .ok (.invokevirtual 64, 3) := by decide +kernel
theorem dX2_playOut_89 : decode cX2_playOut 89 = .ok (.iload 6, 2) := by decide +kernel
theorem dX2_playOut_91 : decode cX2_playOut 91 = .ok (.invokevirtual 107, 3) := by decide +kernel
theorem dX2_playOut_94 : decode cX2_playOut 94 = .ok (.istore 9, 2) := by decide +kernel
theorem dX2_playOut_96 : decode cX2_playOut 96 = .ok (.aload_n 0, 1) := by decide +kernel
theorem dX2_playOut_97 : decode cX2_playOut 97 = .ok (.getfield 37, 3) := by decide +kernel
theorem dX2_playOut_100 : decode cX2_playOut 100 = .ok (.iload 5, 2) := by decide +kernel
theorem dX2_playOut_102 : decode cX2_playOut 102 = .ok (.iload 9, 2) := by decide +kernel
theorem dX2_playOut_104 : decode cX2_playOut 104 = .ok (.ifCond .eq 14, 3) := by decide +kernel
theorem dX2_playOut_107 : decode cX2_playOut 107 = .ok (.aload 4, 2) := by decide +kernel
theorem dX2_playOut_109 : decode cX2_playOut 109 = .ok (.getfield 83, 3) := by decide +kernel
theorem dX2_playOut_112 : decode cX2_playOut 112 = .ok (.iload 6, 2) := by decide +kernel
theorem dX2_playOut_114 : decode cX2_playOut 114 = .ok (.iaload, 1) := by decide +kernel
theorem dX2_playOut_115 : decode cX2_playOut 115 = .ok (.goto 4, 3) := by decide +kernel
theorem dX2_playOut_118 : decode cX2_playOut 118 = .ok (.iconst 0, 1) := by decide +kernel
theorem dX2_playOut_119 : decode cX2_playOut 119 = .ok (.iload 8, 2) := by decide +kernel
theorem dX2_playOut_121 : decode cX2_playOut 121 = .ok (.isub, 1) := by decide +kernel
theorem dX2_playOut_122 : decode cX2_playOut 122 = .ok (.iastore, 1) := by decide +kernel
theorem dX2_playOut_123 : decode cX2_playOut 123 = .ok (.aload_n 0, 1) := by decide +kernel
theorem dX2_playOut_124 : decode cX2_playOut 124 = .ok (.getfield 43, 3) := by decide +kernel
theorem dX2_playOut_127 : decode cX2_playOut 127 = .ok (.aload_n 0, 1) := by decide +kernel
theorem dX2_playOut_128 : decode cX2_playOut 128 = .ok (.getfield 12, 3) := by decide +kernel
theorem dX2_playOut_131 : decode cX2_playOut 131 = .ok (.aload_n 0, 1) := by decide +kernel
theorem dX2_playOut_132 : decode cX2_playOut 132 = .ok (.getfield 43, 3) := by decide +kernel
theorem dX2_playOut_135 : decode cX2_playOut 135 = .ok (.aload_n 0, 1) := by decide +kernel
theorem dX2_playOut_136 : decode cX2_playOut 136 = .ok (.getfield 12, 3) := by decide +kernel
theorem dX2_playOut_139 : decode cX2_playOut 139 = .ok (.getfield 61, 3) := by decide +kernel
theorem dX2_playOut_142 : decode cX2_playOut 142 = .ok (.invokevirtual 64, 3) := by decide +kernel
theorem dX2_playOut_145 : decode cX2_playOut 145 = .ok (.iload 7, 2) := by decide +kernel
theorem dX2_playOut_147 : decode cX2_playOut 147 = .ok (.invokevirtual 107, 3) := by decide +kernel
theorem dX2_playOut_150 : decode cX2_playOut 150 = .ok (.istore 9, 2) := by decide +kernel
theorem dX2_playOut_152 : decode cX2_playOut 152 = .ok (.aload_n 0, 1) := by decide +kernel
theorem dX2_playOut_153 : decode cX2_playOut 153 = .ok (.getfield 40, 3) := by decide +kernel
theorem dX2_playOut_156 : decode cX2_playOut 156 = .ok (.iload 5, 2) := by decide +kernel
theorem dX2_playOut_158 : decode cX2_playOut 158 = .ok (.iload 9, 2) := by decide +kernel
theorem dX2_playOut_160 : decode cX2_playOut 160 = .ok (.ifCond .eq 14, 3) := by decide +kernel
theorem dX2_playOut_163 : decode cX2_playOut 163 = .ok (.aload 4, 2) := by decide +kernel
theorem dX2_playOut_165 : decode cX2_playOut 165 = .ok (.getfield 83, 3) := by decide +kernel
theorem dX2_playOut_168 : decode cX2_playOut 168 = .ok (.iload 7, 2) := by decide +kernel
theorem dX2_playOut_170 : decode cX2_playOut 170 = .ok (.iaload, 1) := by decide +kernel
theorem dX2_playOut_171 : decode cX2_playOut 171 = .ok (.goto 4, 3) := by decide +kernel
theorem dX2_playOut_174 : decode cX2_playOut 174 = .ok (.iconst 0, 1) := by decide +kernel
theorem dX2_playOut_175 : decode cX2_playOut 175 = .ok (.iload 8, 2) := by decide +kernel
theorem dX2_playOut_177 : decode cX2_playOut 177 = .ok (.isub, 1) := by decide +kernel
theorem dX2_playOut_178 : decode cX2_playOut 178 = .ok (.iastore, 1) := by decide +kernel
theorem dX2_playOut_179 : decode cX2_playOut 179 = .ok (.iinc 5 1, 3) := by decide +kernel
theorem dX2_playOut_182 : decode cX2_playOut 182 = .ok (.goto (-170), 3) := by decide +kernel
theorem dX2_playOut_185 : decode cX2_playOut 185 = .ok (.return_, 1) := by decide +kernel
theorem dX2_isAtRest_0 : decode cX2_isAtRest 0 = .ok (.aload_n 0, 1) := by decide +kernel
theorem dX2_isAtRest_1 : decode cX2_isAtRest 1 = .ok (.getfield 37, 3) := by decide +kernel
theorem dX2_isAtRest_4 : decode cX2_isAtRest 4 = .ok (.iload_n 1, 1) := by decide +kernel
theorem dX2_isAtRest_5 : decode cX2_isAtRest 5 = .ok (.iaload, 1) := by decide +kernel
theorem dX2_isAtRest_6 : decode cX2_isAtRest 6 = .ok (.aload_n 0, 1) := by decide +kernel
theorem dX2_isAtRest_7 : decode cX2_isAtRest 7 = .ok (.getfield 37, 3) := by decide +kernel
theorem dX2_isAtRest_10 : decode cX2_isAtRest 10 = .ok (.iload_n 1, 1) := by decide +kernel
theorem dX2_isAtRest_11 : decode cX2_isAtRest 11 = .ok (.iconst 2, 1) := by decide +kernel
theorem dX2_isAtRest_12 : decode cX2_isAtRest 12 = .ok (.ixor, 1) := by decide +kernel
theorem dX2_isAtRest_13 : decode cX2_isAtRest 13 = .ok (.iaload, 1) := by decide +kernel
theorem dX2_isAtRest_14 : decode cX2_isAtRest 14 = .ok (.if_icmp .lt 24, 3) := by decide +kernel
theorem dX2_isAtRest_17 : decode cX2_isAtRest 17 = .ok (.aload_n 0, 1) := by decide +kernel
theorem dX2_isAtRest_18 : decode cX2_isAtRest 18 = .ok (.getfield 40, 3) := by decide +kernel
theorem dX2_isAtRest_21 : decode cX2_isAtRest 21 = .ok (.iload_n 1, 1) := by decide +kernel
theorem dX2_isAtRest_22 : decode cX2_isAtRest 22 = .ok (.iaload, 1) := by decide +kernel
theorem dX2_isAtRest_23 : decode cX2_isAtRest 23 = .ok (.aload_n 0, 1) := by decide +kernel
theorem dX2_isAtRest_24 : decode cX2_isAtRest 24 = .ok (.getfield 40, 3) := by decide +kernel
theorem dX2_isAtRest_27 : decode cX2_isAtRest 27 = .ok (.iload_n 1, 1) := by decide +kernel
theorem dX2_isAtRest_28 : decode cX2_isAtRest 28 = .ok (.iconst 1, 1) := by decide +kernel
theorem dX2_isAtRest_29 : decode cX2_isAtRest 29 = .ok (.ixor, 1) := by decide +kernel
theorem dX2_isAtRest_30 : decode cX2_isAtRest 30 = .ok (.iaload, 1) := by decide +kernel
theorem dX2_isAtRest_31 : decode cX2_isAtRest 31 = .ok (.if_icmp .lt 7, 3) := by decide +kernel
theorem dX2_isAtRest_34 : decode cX2_isAtRest 34 = .ok (.iconst 1, 1) := by decide +kernel
theorem dX2_isAtRest_35 : decode cX2_isAtRest 35 = .ok (.goto 4, 3) := by decide +kernel
theorem dX2_isAtRest_38 : decode cX2_isAtRest 38 = .ok (.iconst 0, 1) := by decide +kernel
theorem dX2_isAtRest_39 : decode cX2_isAtRest 39 = .ok (.ireturn, 1) := by decide +kernel
theorem dX3_init_0 : decode cX3_init 0 = .ok (.aload_n 0, 1) := by decide +kernel
theorem dX3_init_1 : decode cX3_init 1 = .ok (.invokespecial 3, 3) := by decide +kernel
theorem dX3_init_4 : decode cX3_init 4 = .ok (.aload_n 0, 1) := by decide +kernel
theorem dX3_init_5 : decode cX3_init 5 = .ok (.iconst 2, 1) := by decide +kernel
theorem dX3_init_6 : decode cX3_init 6 = .ok (.newarray .int, 2) := by decide +kernel
theorem dX3_init_8 : decode cX3_init 8 = .ok (.putfield 9, 3) := by decide +kernel
theorem dX3_init_11 : decode cX3_init 11 = .ok (.aload_n 0, 1) := by decide +kernel
theorem dX3_init_12 : decode cX3_init 12 = .ok (.iconst 2, 1) := by decide +kernel
theorem dX3_init_13 : decode cX3_init 13 = .ok (.newarray .int, 2) := by decide +kernel
theorem dX3_init_15 : decode cX3_init 15 = .ok (.putfield 15, 3) := by decide +kernel
theorem dX3_init_18 : decode cX3_init 18 = .ok (.aload_n 0, 1) := by decide +kernel
theorem dX3_init_19 : decode cX3_init 19 = .ok (.bipush 12, 2) := by decide +kernel
theorem dX3_init_21 : decode cX3_init 21 = .ok (.newarray .int, 2) := by decide +kernel
theorem dX3_init_23 : decode cX3_init 23 = .ok (.putfield 18, 3) := by decide +kernel
theorem dX3_init_26 : decode cX3_init 26 = .ok (.aload_n 0, 1) := by decide +kernel
theorem dX3_init_27 : decode cX3_init 27 = .ok (.bipush 6, 2) := by decide +kernel
theorem dX3_init_29 : decode cX3_init 29 = .ok (.newarray .int, 2) := by decide +kernel
theorem dX3_init_31 : decode cX3_init 31 = .ok (.putfield 21, 3) := by decide +kernel
theorem dX3_init_34 : decode cX3_init 34 = .ok (.aload_n 0, 1) := by decide +kernel
theorem dX3_init_35 : decode cX3_init 35 = .ok (.invokevirtual 24, 3) := by decide +kernel
theorem dX3_init_38 : decode cX3_init 38 = .ok (.return_, 1) := by decide +kernel
theorem dX3_found_0 : decode cX3_found 0 = .ok (.aload_n 0, 1) := by decide +kernel
theorem dX3_found_1 : decode cX3_found 1 = .ok (.bipush 50, 2) := by decide +kernel
theorem dX3_found_3 : decode cX3_found 3 = .ok (.putfield 27, 3) := by decide +kernel
theorem dX3_found_6 : decode cX3_found 6 = .ok (.aload_n 0, 1) := by decide +kernel
theorem dX3_found_7 : decode cX3_found 7 = .ok (.bipush 20, 2) := by decide +kernel
theorem dX3_found_9 : decode cX3_found 9 = .ok (.putfield 31, 3) := by decide +kernel
theorem dX3_found_12 : decode cX3_found 12 = .ok (.aload_n 0, 1) := by decide +kernel
theorem dX3_found_13 : decode cX3_found 13 = .ok (.iconst 0, 1) := by decide +kernel
theorem dX3_found_14 : decode cX3_found 14 = .ok (.putfield 34, 3) := by decide +kernel
theorem dX3_found_17 : decode cX3_found 17 = .ok (.aload_n 0, 1) := by decide +kernel
theorem dX3_found_18 : decode cX3_found 18 = .ok (.iconst 0, 1) := by decide +kernel
theorem dX3_found_19 : decode cX3_found 19 = .ok (.putfield 37, 3) := by decide +kernel
theorem dX3_found_22 : decode cX3_found 22 = .ok (.aload_n 0, 1) := by decide +kernel
theorem dX3_found_23 : decode cX3_found 23 = .ok (.iconst 0, 1) := by decide +kernel
theorem dX3_found_24 : decode cX3_found 24 = .ok (.putfield 40, 3) := by decide +kernel
theorem dX3_found_27 : decode cX3_found 27 = .ok (.aload_n 0, 1) := by decide +kernel
theorem dX3_found_28 : decode cX3_found 28 = .ok (.iconst 0, 1) := by decide +kernel
theorem dX3_found_29 : decode cX3_found 29 = .ok (.putfield 43, 3) := by decide +kernel
theorem dX3_found_32 : decode cX3_found 32 = .ok (.aload_n 0, 1) := by decide +kernel
theorem dX3_found_33 : decode cX3_found 33 = .ok (.iconst 0, 1) := by decide +kernel
theorem dX3_found_34 : decode cX3_found 34 = .ok (.putfield 46, 3) := by decide +kernel
theorem dX3_found_37 : decode cX3_found 37 = .ok (.aload_n 0, 1) := by decide +kernel
theorem dX3_found_38 : decode cX3_found 38 = .ok (.iconst 0, 1) := by decide +kernel
theorem dX3_found_39 : decode cX3_found 39 = .ok (.putfield 49, 3) := by decide +kernel
theorem dX3_found_42 : decode cX3_found 42 = .ok (.aload_n 0, 1) := by decide +kernel
theorem dX3_found_43 : decode cX3_found 43 = .ok (.iconst 1, 1) := by decide +kernel
theorem dX3_found_44 : decode cX3_found 44 = .ok (.putfield 52, 3) := by decide +kernel
theorem dX3_found_47 : decode cX3_found 47 = .ok (.aload_n 0, 1) := by decide +kernel
theorem dX3_found_48 : decode cX3_found 48 = .ok (.getfield 9, 3) := by decide +kernel
theorem dX3_found_51 : decode cX3_found 51 = .ok (.invokestatic 55, 3) := by decide +kernel
theorem dX3_found_54 : decode cX3_found 54 = .ok (.aload_n 0, 1) := by decide +kernel
theorem dX3_found_55 : decode cX3_found 55 = .ok (.getfield 15, 3) := by decide +kernel
theorem dX3_found_58 : decode cX3_found 58 = .ok (.invokestatic 55, 3) := by decide +kernel
theorem dX3_found_61 : decode cX3_found 61 = .ok (.aload_n 0, 1) := by decide +kernel
theorem dX3_found_62 : decode cX3_found 62 = .ok (.getfield 18, 3) := by decide +kernel
theorem dX3_found_65 : decode cX3_found 65 = .ok (.invokestatic 55, 3) := by decide +kernel
theorem dX3_found_68 : decode cX3_found 68 = .ok (.aload_n 0, 1) := by decide +kernel
theorem dX3_found_69 : decode cX3_found 69 = .ok (.getfield 21, 3) := by decide +kernel
theorem dX3_found_72 : decode cX3_found 72 = .ok (.invokestatic 55, 3) := by decide +kernel
theorem dX3_found_75 : decode cX3_found 75 = .ok (.return_, 1) := by decide +kernel
theorem dX3_clearRow_0 : decode cX3_clearRow 0 = .ok (.iconst 0, 1) := by decide +kernel
theorem dX3_clearRow_1 : decode cX3_clearRow 1 = .ok (.istore_n 1, 1) := by decide +kernel
theorem dX3_clearRow_2 : decode cX3_clearRow 2 = .ok (.iload_n 1, 1) := by decide +kernel
theorem dX3_clearRow_3 : decode cX3_clearRow 3 = .ok (.aload_n 0, 1) := by decide +kernel
theorem dX3_clearRow_4 : decode cX3_clearRow 4 = .ok (.arraylength, 1) := by decide +kernel
theorem dX3_clearRow_5 : decode cX3_clearRow 5 = .ok (.if_icmp .ge 13, 3) := by decide +kernel
theorem dX3_clearRow_8 : decode cX3_clearRow 8 = .ok (.aload_n 0, 1) := by decide +kernel
theorem dX3_clearRow_9 : decode cX3_clearRow 9 = .ok (.iload_n 1, 1) := by decide +kernel
theorem dX3_clearRow_10 : decode cX3_clearRow 10 = .ok (.iconst 0, 1) := by decide +kernel
theorem dX3_clearRow_11 : decode cX3_clearRow 11 = .ok (.iastore, 1) := by decide +kernel
theorem dX3_clearRow_12 : decode cX3_clearRow 12 = .ok (.iinc 1 1, 3) := by decide +kernel
theorem dX3_clearRow_15 : decode cX3_clearRow 15 = .ok (.goto (-13), 3) := by decide +kernel
theorem dX3_clearRow_18 : decode cX3_clearRow 18 = .ok (.return_, 1) := by decide +kernel
theorem dX3_become_0 : decode cX3_become 0 = .ok (.aload_n 0, 1) := by decide +kernel
theorem dX3_become_1 : decode cX3_become 1 = .ok (.aload_n 1, 1) := by decide +kernel
theorem dX3_become_2 : decode cX3_become 2 = .ok (.getfield 27, 3) := by decide +kernel
theorem dX3_become_5 : decode cX3_become 5 = .ok (.putfield 27, 3) := by decide +kernel
theorem dX3_become_8 : decode cX3_become 8 = .ok (.aload_n 0, 1) := by decide +kernel
theorem dX3_become_9 : decode cX3_become 9 = .ok (.aload_n 1, 1) := by decide +kernel
theorem dX3_become_10 : decode cX3_become 10 = .ok (.getfield 31, 3) := by decide +kernel
theorem dX3_become_13 : decode cX3_become 13 = .ok (.putfield 31, 3) := by decide +kernel
theorem dX3_become_16 : decode cX3_become 16 = .ok (.aload_n 0, 1) := by decide +kernel
theorem dX3_become_17 : decode cX3_become 17 = .ok (.aload_n 1, 1) := by decide +kernel
theorem dX3_become_18 : decode cX3_become 18 = .ok (.getfield 34, 3) := by decide +kernel
theorem dX3_become_21 : decode cX3_become 21 = .ok (.putfield 34, 3) := by decide +kernel
theorem dX3_become_24 : decode cX3_become 24 = .ok (.aload_n 0, 1) := by decide +kernel
theorem dX3_become_25 : decode cX3_become 25 = .ok (.aload_n 1, 1) := by decide +kernel
theorem dX3_become_26 : decode cX3_become 26 = .ok (.getfield 37, 3) := by decide +kernel
theorem dX3_become_29 : decode cX3_become 29 = .ok (.putfield 37, 3) := by decide +kernel
theorem dX3_become_32 : decode cX3_become 32 = .ok (.aload_n 0, 1) := by decide +kernel
theorem dX3_become_33 : decode cX3_become 33 = .ok (.aload_n 1, 1) := by decide +kernel
theorem dX3_become_34 : decode cX3_become 34 = .ok (.getfield 40, 3) := by decide +kernel
theorem dX3_become_37 : decode cX3_become 37 = .ok (.putfield 40, 3) := by decide +kernel
theorem dX3_become_40 : decode cX3_become 40 = .ok (.aload_n 0, 1) := by decide +kernel
theorem dX3_become_41 : decode cX3_become 41 = .ok (.aload_n 1, 1) := by decide +kernel
theorem dX3_become_42 : decode cX3_become 42 = .ok (.getfield 43, 3) := by decide +kernel
theorem dX3_become_45 : decode cX3_become 45 = .ok (.putfield 43, 3) := by decide +kernel
theorem dX3_become_48 : decode cX3_become 48 = .ok (.aload_n 0, 1) := by decide +kernel
theorem dX3_become_49 : decode cX3_become 49 = .ok (.aload_n 1, 1) := by decide +kernel
theorem dX3_become_50 : decode cX3_become 50 = .ok (.getfield 46, 3) := by decide +kernel
theorem dX3_become_53 : decode cX3_become 53 = .ok (.putfield 46, 3) := by decide +kernel
theorem dX3_become_56 : decode cX3_become 56 = .ok (.aload_n 0, 1) := by decide +kernel
theorem dX3_become_57 : decode cX3_become 57 = .ok (.aload_n 1, 1) := by decide +kernel
theorem dX3_become_58 : decode cX3_become 58 = .ok (.getfield 49, 3) := by decide +kernel
theorem dX3_become_61 : decode cX3_become 61 = .ok (.putfield 49, 3) := by decide +kernel
theorem dX3_become_64 : decode cX3_become 64 = .ok (.aload_n 0, 1) := by decide +kernel
theorem dX3_become_65 : decode cX3_become 65 = .ok (.aload_n 1, 1) := by decide +kernel
theorem dX3_become_66 : decode cX3_become 66 = .ok (.getfield 52, 3) := by decide +kernel
theorem dX3_become_69 : decode cX3_become 69 = .ok (.putfield 52, 3) := by decide +kernel
theorem dX3_become_72 : decode cX3_become 72 = .ok (.aload_n 1, 1) := by decide +kernel
theorem dX3_become_73 : decode cX3_become 73 = .ok (.getfield 9, 3) := by decide +kernel
theorem dX3_become_76 : decode cX3_become 76 = .ok (.iconst 0, 1) := by decide +kernel
theorem dX3_become_77 : decode cX3_become 77 = .ok (.aload_n 0, 1) := by decide +kernel
theorem dX3_become_78 : decode cX3_become 78 = .ok (.getfield 9, 3) := by decide +kernel
theorem dX3_become_81 : decode cX3_become 81 = .ok (.iconst 0, 1) := by decide +kernel
theorem dX3_become_82 : decode cX3_become 82 = .ok (.iconst 2, 1) := by decide +kernel
theorem dX3_become_83 : decode cX3_become 83 = .ok (.invokestatic 59, 3) := by decide +kernel
theorem dX3_become_86 : decode cX3_become 86 = .ok (.aload_n 1, 1) := by decide +kernel
theorem dX3_become_87 : decode cX3_become 87 = .ok (.getfield 15, 3) := by decide +kernel
theorem dX3_become_90 : decode cX3_become 90 = .ok (.iconst 0, 1) := by decide +kernel
theorem dX3_become_91 : decode cX3_become 91 = .ok (.aload_n 0, 1) := by decide +kernel
theorem dX3_become_92 : decode cX3_become 92 = .ok (.getfield 15, 3) := by decide +kernel
theorem dX3_become_95 : decode cX3_become 95 = .ok (.iconst 0, 1) := by decide +kernel
theorem dX3_become_96 : decode cX3_become 96 = .ok (.iconst 2, 1) := by decide +kernel
theorem dX3_become_97 : decode cX3_become 97 = .ok (.invokestatic 59, 3) := by decide +kernel
theorem dX3_become_100 : decode cX3_become 100 = .ok (.aload_n 1, 1) := by decide +kernel
theorem dX3_become_101 : decode cX3_become 101 = .ok (.getfield 18, 3) := by decide +kernel
theorem dX3_become_104 : decode cX3_become 104 = .ok (.iconst 0, 1) := by decide +kernel
theorem dX3_become_105 : decode cX3_become 105 = .ok (.aload_n 0, 1) := by decide +kernel
theorem dX3_become_106 : decode cX3_become 106 = .ok (.getfield 18, 3) := by decide +kernel
theorem dX3_become_109 : decode cX3_become 109 = .ok (.iconst 0, 1) := by decide +kernel
theorem dX3_become_110 : decode cX3_become 110 = .ok (.bipush 12, 2) := by decide +kernel
theorem dX3_become_112 : decode cX3_become 112 = .ok (.invokestatic 59, 3) := by decide +kernel
theorem dX3_become_115 : decode cX3_become 115 = .ok (.aload_n 1, 1) := by decide +kernel
theorem dX3_become_116 : decode cX3_become 116 = .ok (.getfield 21, 3) := by decide +kernel
theorem dX3_become_119 : decode cX3_become 119 = .ok (.iconst 0, 1) := by decide +kernel
theorem dX3_become_120 : decode cX3_become 120 = .ok (.aload_n 0, 1) := by decide +kernel
theorem dX3_become_121 : decode cX3_become 121 = .ok (.getfield 21, 3) := by decide +kernel
theorem dX3_become_124 : decode cX3_become 124 = .ok (.iconst 0, 1) := by decide +kernel
theorem dX3_become_125 : decode cX3_become 125 = .ok (.bipush 6, 2) := by decide +kernel
theorem dX3_become_127 : decode cX3_become 127 = .ok (.invokestatic 59, 3) := by decide +kernel
theorem dX3_become_130 : decode cX3_become 130 = .ok (.return_, 1) := by decide +kernel
theorem dX3_write_0 : decode cX3_write 0 = .ok (.iload_n 2, 1) := by decide +kernel
theorem dX3_write_1 : decode cX3_write 1 = .ok (.ifCond .lt 12, 3) := by decide +kernel
theorem dX3_write_4 : decode cX3_write 4 = .ok (.iload_n 2, 1) := by decide +kernel
theorem dX3_write_5 : decode cX3_write 5 = .ok (.bipush 31, 2) := by decide +kernel
theorem dX3_write_7 : decode cX3_write 7 = .ok (.iadd, 1) := by decide +kernel
theorem dX3_write_8 : decode cX3_write 8 = .ok (.aload_n 1, 1) := by decide +kernel
theorem dX3_write_9 : decode cX3_write 9 = .ok (.arraylength, 1) := by decide +kernel
theorem dX3_write_10 : decode cX3_write 10 = .ok (.if_icmp .le 4, 3) := by decide +kernel
theorem dX3_write_13 : decode cX3_write 13 = .ok (.return_, 1) := by decide +kernel
theorem dX3_write_14 : decode cX3_write 14 = .ok (.aload_n 1, 1) := by decide +kernel
theorem dX3_write_15 : decode cX3_write 15 = .ok (.iload_n 2, 1) := by decide +kernel
theorem dX3_write_16 : decode cX3_write 16 = .ok (.aload_n 0, 1) := by decide +kernel
theorem dX3_write_17 : decode cX3_write 17 = .ok (.getfield 27, 3) := by decide +kernel
theorem dX3_write_20 : decode cX3_write 20 = .ok (.iastore, 1) := by decide +kernel
theorem dX3_write_21 : decode cX3_write 21 = .ok (.aload_n 1, 1) := by decide +kernel
theorem dX3_write_22 : decode cX3_write 22 = .ok (.iload_n 2, 1) := by decide +kernel
theorem dX3_write_23 : decode cX3_write 23 = .ok (.iconst 1, 1) := by decide +kernel
theorem dX3_write_24 : decode cX3_write 24 = .ok (.iadd, 1) := by decide +kernel
theorem dX3_write_25 : decode cX3_write 25 = .ok (.aload_n 0, 1) := by decide +kernel
theorem dX3_write_26 : decode cX3_write 26 = .ok (.getfield 31, 3) := by decide +kernel
theorem dX3_write_29 : decode cX3_write 29 = .ok (.iastore, 1) := by decide +kernel
theorem dX3_write_30 : decode cX3_write 30 = .ok (.aload_n 1, 1) := by decide +kernel
theorem dX3_write_31 : decode cX3_write 31 = .ok (.iload_n 2, 1) := by decide +kernel
theorem dX3_write_32 : decode cX3_write 32 = .ok (.iconst 2, 1) := by decide +kernel
theorem dX3_write_33 : decode cX3_write 33 = .ok (.iadd, 1) := by decide +kernel
theorem dX3_write_34 : decode cX3_write 34 = .ok (.aload_n 0, 1) := by decide +kernel
theorem dX3_write_35 : decode cX3_write 35 = .ok (.getfield 34, 3) := by decide +kernel
theorem dX3_write_38 : decode cX3_write 38 = .ok (.iastore, 1) := by decide +kernel
theorem dX3_write_39 : decode cX3_write 39 = .ok (.aload_n 1, 1) := by decide +kernel
theorem dX3_write_40 : decode cX3_write 40 = .ok (.iload_n 2, 1) := by decide +kernel
theorem dX3_write_41 : decode cX3_write 41 = .ok (.iconst 3, 1) := by decide +kernel
theorem dX3_write_42 : decode cX3_write 42 = .ok (.iadd, 1) := by decide +kernel
theorem dX3_write_43 : decode cX3_write 43 = .ok (.aload_n 0, 1) := by decide +kernel
theorem dX3_write_44 : decode cX3_write 44 = .ok (.getfield 37, 3) := by decide +kernel
theorem dX3_write_47 : decode cX3_write 47 = .ok (.iastore, 1) := by decide +kernel
theorem dX3_write_48 : decode cX3_write 48 = .ok (.aload_n 1, 1) := by decide +kernel
theorem dX3_write_49 : decode cX3_write 49 = .ok (.iload_n 2, 1) := by decide +kernel
theorem dX3_write_50 : decode cX3_write 50 = .ok (.iconst 4, 1) := by decide +kernel
theorem dX3_write_51 : decode cX3_write 51 = .ok (.iadd, 1) := by decide +kernel
theorem dX3_write_52 : decode cX3_write 52 = .ok (.aload_n 0, 1) := by decide +kernel
theorem dX3_write_53 : decode cX3_write 53 = .ok (.getfield 40, 3) := by decide +kernel
theorem dX3_write_56 : decode cX3_write 56 = .ok (.iastore, 1) := by decide +kernel
theorem dX3_write_57 : decode cX3_write 57 = .ok (.aload_n 1, 1) := by decide +kernel
theorem dX3_write_58 : decode cX3_write 58 = .ok (.iload_n 2, 1) := by decide +kernel
theorem dX3_write_59 : decode cX3_write 59 = .ok (.iconst 5, 1) := by decide +kernel
theorem dX3_write_60 : decode cX3_write 60 = .ok (.iadd, 1) := by decide +kernel
theorem dX3_write_61 : decode cX3_write 61 = .ok (.aload_n 0, 1) := by decide +kernel
theorem dX3_write_62 : decode cX3_write 62 = .ok (.getfield 43, 3) := by decide +kernel
theorem dX3_write_65 : decode cX3_write 65 = .ok (.iastore, 1) := by decide +kernel
theorem dX3_write_66 : decode cX3_write 66 = .ok (.aload_n 1, 1) := by decide +kernel
theorem dX3_write_67 : decode cX3_write 67 = .ok (.iload_n 2, 1) := by decide +kernel
theorem dX3_write_68 : decode cX3_write 68 = .ok (.bipush 6, 2) := by decide +kernel
theorem dX3_write_70 : decode cX3_write 70 = .ok (.iadd, 1) := by decide +kernel
theorem dX3_write_71 : decode cX3_write 71 = .ok (.aload_n 0, 1) := by decide +kernel
theorem dX3_write_72 : decode cX3_write 72 = .ok (.getfield 46, 3) := by decide +kernel
theorem dX3_write_75 : decode cX3_write 75 = .ok (.iastore, 1) := by decide +kernel
theorem dX3_write_76 : decode cX3_write 76 = .ok (.aload_n 1, 1) := by decide +kernel
theorem dX3_write_77 : decode cX3_write 77 = .ok (.iload_n 2, 1) := by decide +kernel
theorem dX3_write_78 : decode cX3_write 78 = .ok (.bipush 7, 2) := by decide +kernel
theorem dX3_write_80 : decode cX3_write 80 = .ok (.iadd, 1) := by decide +kernel
theorem dX3_write_81 : decode cX3_write 81 = .ok (.aload_n 0, 1) := by decide +kernel
theorem dX3_write_82 : decode cX3_write 82 = .ok (.getfield 49, 3) := by decide +kernel
theorem dX3_write_85 : decode cX3_write 85 = .ok (.iastore, 1) := by decide +kernel
theorem dX3_write_86 : decode cX3_write 86 = .ok (.aload_n 1, 1) := by decide +kernel
theorem dX3_write_87 : decode cX3_write 87 = .ok (.iload_n 2, 1) := by decide +kernel
theorem dX3_write_88 : decode cX3_write 88 = .ok (.bipush 8, 2) := by decide +kernel
theorem dX3_write_90 : decode cX3_write 90 = .ok (.iadd, 1) := by decide +kernel
theorem dX3_write_91 : decode cX3_write 91 = .ok (.aload_n 0, 1) := by decide +kernel
theorem dX3_write_92 : decode cX3_write 92 = .ok (.getfield 52, 3) := by decide +kernel
theorem dX3_write_95 : decode cX3_write 95 = .ok (.iastore, 1) := by decide +kernel
theorem dX3_write_96 : decode cX3_write 96 = .ok (.aload_n 0, 1) := by decide +kernel
theorem dX3_write_97 : decode cX3_write 97 = .ok (.getfield 9, 3) := by decide +kernel
theorem dX3_write_100 : decode cX3_write 100 = .ok (.iconst 0, 1) := by decide +kernel
theorem dX3_write_101 : decode cX3_write 101 = .ok (.aload_n 1, 1) := by decide +kernel
theorem dX3_write_102 : decode cX3_write 102 = .ok (.iload_n 2, 1) := by decide +kernel
theorem dX3_write_103 : decode cX3_write 103 = .ok (.bipush 9, 2) := by decide +kernel
theorem dX3_write_105 : decode cX3_write 105 = .ok (.iadd, 1) := by decide +kernel
theorem dX3_write_106 : decode cX3_write 106 = .ok (.iconst 2, 1) := by decide +kernel
theorem dX3_write_107 : decode cX3_write 107 = .ok (.invokestatic 59, 3) := by decide +kernel
theorem dX3_write_110 : decode cX3_write 110 = .ok (.aload_n 0, 1) := by decide +kernel
theorem dX3_write_111 : decode cX3_write 111 = .ok (.getfield 15, 3) := by decide +kernel
theorem dX3_write_114 : decode cX3_write 114 = .ok (.iconst 0, 1) := by decide +kernel
theorem dX3_write_115 : decode cX3_write 115 = .ok (.aload_n 1, 1) := by decide +kernel
theorem dX3_write_116 : decode cX3_write 116 = .ok (.iload_n 2, 1) := by decide +kernel
theorem dX3_write_117 : decode cX3_write 117 = .ok (.bipush 11, 2) := by decide +kernel
theorem dX3_write_119 : decode cX3_write 119 = .ok (.iadd, 1) := by decide +kernel
theorem dX3_write_120 : decode cX3_write 120 = .ok (.iconst 2, 1) := by decide +kernel
theorem dX3_write_121 : decode cX3_write 121 = .ok (.invokestatic 59, 3) := by decide +kernel
theorem dX3_write_124 : decode cX3_write 124 = .ok (.aload_n 0, 1) := by decide +kernel
theorem dX3_write_125 : decode cX3_write 125 = .ok (.getfield 18, 3) := by decide +kernel
theorem dX3_write_128 : decode cX3_write 128 = .ok (.iconst 0, 1) := by decide +kernel
theorem dX3_write_129 : decode cX3_write 129 = .ok (.aload_n 1, 1) := by decide +kernel
theorem dX3_write_130 : decode cX3_write 130 = .ok (.iload_n 2, 1) := by decide +kernel
theorem dX3_write_131 : decode cX3_write 131 = .ok (.bipush 13, 2) := by decide +kernel
theorem dX3_write_133 : decode cX3_write 133 = .ok (.iadd, 1) := by decide +kernel
theorem dX3_write_134 : decode cX3_write 134 = .ok (.bipush 12, 2) := by decide +kernel
theorem dX3_write_136 : decode cX3_write 136 = .ok (.invokestatic 59, 3) := by decide +kernel
theorem dX3_write_139 : decode cX3_write 139 = .ok (.aload_n 0, 1) := by decide +kernel
theorem dX3_write_140 : decode cX3_write 140 = .ok (.getfield 21, 3) := by decide +kernel
theorem dX3_write_143 : decode cX3_write 143 = .ok (.iconst 0, 1) := by decide +kernel
theorem dX3_write_144 : decode cX3_write 144 = .ok (.aload_n 1, 1) := by decide +kernel
theorem dX3_write_145 : decode cX3_write 145 = .ok (.iload_n 2, 1) := by decide +kernel
theorem dX3_write_146 : decode cX3_write 146 = .ok (.bipush 13, 2) := by decide +kernel
theorem dX3_write_148 : decode cX3_write 148 = .ok (.iadd, 1) := by decide +kernel
theorem dX3_write_149 : decode cX3_write 149 = .ok (.bipush 12, 2) := by decide +kernel
theorem dX3_write_151 : decode cX3_write 151 = .ok (.iadd, 1) := by decide +kernel
theorem dX3_write_152 : decode cX3_write 152 = .ok (.bipush 6, 2) := by decide +kernel
theorem dX3_write_154 : decode cX3_write 154 = .ok (.invokestatic 59, 3) := by decide +kernel
theorem dX3_write_157 : decode cX3_write 157 = .ok (.return_, 1) := by decide +kernel
theorem dX3_read_0 : decode cX3_read 0 = .ok (.iload_n 2, 1) := by decide +kernel
theorem dX3_read_1 : decode cX3_read 1 = .ok (.ifCond .lt 12, 3) := by decide +kernel
theorem dX3_read_4 : decode cX3_read 4 = .ok (.iload_n 2, 1) := by decide +kernel
theorem dX3_read_5 : decode cX3_read 5 = .ok (.bipush 31, 2) := by decide +kernel
theorem dX3_read_7 : decode cX3_read 7 = .ok (.iadd, 1) := by decide +kernel
theorem dX3_read_8 : decode cX3_read 8 = .ok (.aload_n 1, 1) := by decide +kernel
theorem dX3_read_9 : decode cX3_read 9 = .ok (.arraylength, 1) := by decide +kernel
theorem dX3_read_10 : decode cX3_read 10 = .ok (.if_icmp .le 4, 3) := by decide +kernel
theorem dX3_read_13 : decode cX3_read 13 = .ok (.return_, 1) := by decide +kernel
theorem dX3_read_14 : decode cX3_read 14 = .ok (.aload_n 0, 1) := by decide +kernel
theorem dX3_read_15 : decode cX3_read 15 = .ok (.aload_n 1, 1) := by decide +kernel
theorem dX3_read_16 : decode cX3_read 16 = .ok (.iload_n 2, 1) := by decide +kernel
theorem dX3_read_17 : decode cX3_read 17 = .ok (.iaload, 1) := by decide +kernel
theorem dX3_read_18 : decode cX3_read 18 = .ok (.putfield 27, 3) := by decide +kernel
theorem dX3_read_21 : decode cX3_read 21 = .ok (.aload_n 0, 1) := by decide +kernel
theorem dX3_read_22 : decode cX3_read 22 = .ok (.aload_n 1, 1) := by decide +kernel
theorem dX3_read_23 : decode cX3_read 23 = .ok (.iload_n 2, 1) := by decide +kernel
theorem dX3_read_24 : decode cX3_read 24 = .ok (.iconst 1, 1) := by decide +kernel
theorem dX3_read_25 : decode cX3_read 25 = .ok (.iadd, 1) := by decide +kernel
theorem dX3_read_26 : decode cX3_read 26 = .ok (.iaload, 1) := by decide +kernel
theorem dX3_read_27 : decode cX3_read 27 = .ok (.putfield 31, 3) := by decide +kernel
theorem dX3_read_30 : decode cX3_read 30 = .ok (.aload_n 0, 1) := by decide +kernel
theorem dX3_read_31 : decode cX3_read 31 = .ok (.aload_n 1, 1) := by decide +kernel
theorem dX3_read_32 : decode cX3_read 32 = .ok (.iload_n 2, 1) := by decide +kernel
theorem dX3_read_33 : decode cX3_read 33 = .ok (.iconst 2, 1) := by decide +kernel
theorem dX3_read_34 : decode cX3_read 34 = .ok (.iadd, 1) := by decide +kernel
theorem dX3_read_35 : decode cX3_read 35 = .ok (.iaload, 1) := by decide +kernel
theorem dX3_read_36 : decode cX3_read 36 = .ok (.putfield 34, 3) := by decide +kernel
theorem dX3_read_39 : decode cX3_read 39 = .ok (.aload_n 0, 1) := by decide +kernel
theorem dX3_read_40 : decode cX3_read 40 = .ok (.aload_n 1, 1) := by decide +kernel
theorem dX3_read_41 : decode cX3_read 41 = .ok (.iload_n 2, 1) := by decide +kernel
theorem dX3_read_42 : decode cX3_read 42 = .ok (.iconst 3, 1) := by decide +kernel
theorem dX3_read_43 : decode cX3_read 43 = .ok (.iadd, 1) := by decide +kernel
theorem dX3_read_44 : decode cX3_read 44 = .ok (.iaload, 1) := by decide +kernel
theorem dX3_read_45 : decode cX3_read 45 = .ok (.putfield 37, 3) := by decide +kernel
theorem dX3_read_48 : decode cX3_read 48 = .ok (.aload_n 0, 1) := by decide +kernel
theorem dX3_read_49 : decode cX3_read 49 = .ok (.aload_n 1, 1) := by decide +kernel
theorem dX3_read_50 : decode cX3_read 50 = .ok (.iload_n 2, 1) := by decide +kernel
theorem dX3_read_51 : decode cX3_read 51 = .ok (.iconst 4, 1) := by decide +kernel
theorem dX3_read_52 : decode cX3_read 52 = .ok (.iadd, 1) := by decide +kernel
theorem dX3_read_53 : decode cX3_read 53 = .ok (.iaload, 1) := by decide +kernel
theorem dX3_read_54 : decode cX3_read 54 = .ok (.putfield 40, 3) := by decide +kernel
theorem dX3_read_57 : decode cX3_read 57 = .ok (.aload_n 0, 1) := by decide +kernel
theorem dX3_read_58 : decode cX3_read 58 = .ok (.aload_n 1, 1) := by decide +kernel
theorem dX3_read_59 : decode cX3_read 59 = .ok (.iload_n 2, 1) := by decide +kernel
theorem dX3_read_60 : decode cX3_read 60 = .ok (.iconst 5, 1) := by decide +kernel
theorem dX3_read_61 : decode cX3_read 61 = .ok (.iadd, 1) := by decide +kernel
theorem dX3_read_62 : decode cX3_read 62 = .ok (.iaload, 1) := by decide +kernel
theorem dX3_read_63 : decode cX3_read 63 = .ok (.putfield 43, 3) := by decide +kernel
theorem dX3_read_66 : decode cX3_read 66 = .ok (.aload_n 0, 1) := by decide +kernel
theorem dX3_read_67 : decode cX3_read 67 = .ok (.aload_n 1, 1) := by decide +kernel
theorem dX3_read_68 : decode cX3_read 68 = .ok (.iload_n 2, 1) := by decide +kernel
theorem dX3_read_69 : decode cX3_read 69 = .ok (.bipush 6, 2) := by decide +kernel
theorem dX3_read_71 : decode cX3_read 71 = .ok (.iadd, 1) := by decide +kernel
theorem dX3_read_72 : decode cX3_read 72 = .ok (.iaload, 1) := by decide +kernel
theorem dX3_read_73 : decode cX3_read 73 = .ok (.putfield 46, 3) := by decide +kernel
theorem dX3_read_76 : decode cX3_read 76 = .ok (.aload_n 0, 1) := by decide +kernel
theorem dX3_read_77 : decode cX3_read 77 = .ok (.aload_n 1, 1) := by decide +kernel
theorem dX3_read_78 : decode cX3_read 78 = .ok (.iload_n 2, 1) := by decide +kernel
theorem dX3_read_79 : decode cX3_read 79 = .ok (.bipush 7, 2) := by decide +kernel
theorem dX3_read_81 : decode cX3_read 81 = .ok (.iadd, 1) := by decide +kernel
theorem dX3_read_82 : decode cX3_read 82 = .ok (.iaload, 1) := by decide +kernel
theorem dX3_read_83 : decode cX3_read 83 = .ok (.putfield 49, 3) := by decide +kernel
theorem dX3_read_86 : decode cX3_read 86 = .ok (.aload_n 0, 1) := by decide +kernel
theorem dX3_read_87 : decode cX3_read 87 = .ok (.aload_n 1, 1) := by decide +kernel
theorem dX3_read_88 : decode cX3_read 88 = .ok (.iload_n 2, 1) := by decide +kernel
theorem dX3_read_89 : decode cX3_read 89 = .ok (.bipush 8, 2) := by decide +kernel
theorem dX3_read_91 : decode cX3_read 91 = .ok (.iadd, 1) := by decide +kernel
theorem dX3_read_92 : decode cX3_read 92 = .ok (.iaload, 1) := by decide +kernel
theorem dX3_read_93 : decode cX3_read 93 = .ok (.putfield 52, 3) := by decide +kernel
theorem dX3_read_96 : decode cX3_read 96 = .ok (.aload_n 1, 1) := by decide +kernel
theorem dX3_read_97 : decode cX3_read 97 = .ok (.iload_n 2, 1) := by decide +kernel
theorem dX3_read_98 : decode cX3_read 98 = .ok (.bipush 9, 2) := by decide +kernel
theorem dX3_read_100 : decode cX3_read 100 = .ok (.iadd, 1) := by decide +kernel
theorem dX3_read_101 : decode cX3_read 101 = .ok (.aload_n 0, 1) := by decide +kernel
theorem dX3_read_102 : decode cX3_read 102 = .ok (.getfield 9, 3) := by decide +kernel
theorem dX3_read_105 : decode cX3_read 105 = .ok (.iconst 0, 1) := by decide +kernel
theorem dX3_read_106 : decode cX3_read 106 = .ok (.iconst 2, 1) := by decide +kernel
theorem dX3_read_107 : decode cX3_read 107 = .ok (.invokestatic 59, 3) := by decide +kernel
theorem dX3_read_110 : decode cX3_read 110 = .ok (.aload_n 1, 1) := by decide +kernel
theorem dX3_read_111 : decode cX3_read 111 = .ok (.iload_n 2, 1) := by decide +kernel
theorem dX3_read_112 : decode cX3_read 112 = .ok (.bipush 11, 2) := by decide +kernel
theorem dX3_read_114 : decode cX3_read 114 = .ok (.iadd, 1) := by decide +kernel
theorem dX3_read_115 : decode cX3_read 115 = .ok (.aload_n 0, 1) := by decide +kernel
theorem dX3_read_116 : decode cX3_read 116 = .ok (.getfield 15, 3) := by decide +kernel
theorem dX3_read_119 : decode cX3_read 119 = .ok (.iconst 0, 1) := by decide +kernel
theorem dX3_read_120 : decode cX3_read 120 = .ok (.iconst 2, 1) := by decide +kernel
theorem dX3_read_121 : decode cX3_read 121 = .ok (.invokestatic 59, 3) := by decide +kernel
theorem dX3_read_124 : decode cX3_read 124 = .ok (.aload_n 1, 1) := by decide +kernel
theorem dX3_read_125 : decode cX3_read 125 = .ok (.iload_n 2, 1) := by decide +kernel
theorem dX3_read_126 : decode cX3_read 126 = .ok (.bipush 13, 2) := by decide +kernel
theorem dX3_read_128 : decode cX3_read 128 = .ok (.iadd, 1) := by decide +kernel
theorem dX3_read_129 : decode cX3_read 129 = .ok (.aload_n 0, 1) := by decide +kernel
theorem dX3_read_130 : decode cX3_read 130 = .ok (.getfield 18, 3) := by decide +kernel
theorem dX3_read_133 : decode cX3_read 133 = .ok (.iconst 0, 1) := by decide +kernel
theorem dX3_read_134 : decode cX3_read 134 = .ok (.bipush 12, 2) := by decide +kernel
theorem dX3_read_136 : decode cX3_read 136 = .ok (.invokestatic 59, 3) := by decide +kernel
theorem dX3_read_139 : decode cX3_read 139 = .ok (.aload_n 1, 1) := by decide +kernel
theorem dX3_read_140 : decode cX3_read 140 = .ok (.iload_n 2, 1) := by decide +kernel
theorem dX3_read_141 : decode cX3_read 141 = .ok (.bipush 13, 2) := by decide +kernel
theorem dX3_read_143 : decode cX3_read 143 = .ok (.iadd, 1) := by decide +kernel
theorem dX3_read_144 : decode cX3_read 144 = .ok (.bipush 12, 2) := by decide +kernel
theorem dX3_read_146 : decode cX3_read 146 = .ok (.iadd, 1) := by decide +kernel
theorem dX3_read_147 : decode cX3_read 147 = .ok (.aload_n 0, 1) := by decide +kernel
theorem dX3_read_148 : decode cX3_read 148 = .ok (.getfield 21, 3) := by decide +kernel
theorem dX3_read_151 : decode cX3_read 151 = .ok (.iconst 0, 1) := by decide +kernel
theorem dX3_read_152 : decode cX3_read 152 = .ok (.bipush 6, 2) := by decide +kernel
theorem dX3_read_154 : decode cX3_read 154 = .ok (.invokestatic 59, 3) := by decide +kernel
theorem dX3_read_157 : decode cX3_read 157 = .ok (.return_, 1) := by decide +kernel
theorem dX3_wealth_0 : decode cX3_wealth 0 = .ok (.aload_n 0, 1) := by decide +kernel
theorem dX3_wealth_1 : decode cX3_wealth 1 = .ok (.getfield 27, 3) := by decide +kernel
theorem dX3_wealth_4 : decode cX3_wealth 4 = .ok (.aload_n 0, 1) := by decide +kernel
theorem dX3_wealth_5 : decode cX3_wealth 5 = .ok (.getfield 34, 3) := by decide +kernel
theorem dX3_wealth_8 : decode cX3_wealth 8 = .ok (.isub, 1) := by decide +kernel
theorem dX3_wealth_9 : decode cX3_wealth 9 = .ok (.ireturn, 1) := by decide +kernel
theorem dX3_handOver_0 : decode cX3_handOver 0 = .ok (.aload_n 0, 1) := by decide +kernel
theorem dX3_handOver_1 : decode cX3_handOver 1 = .ok (.iconst 1, 1) := by decide +kernel
theorem dX3_handOver_2 : decode cX3_handOver 2 = .ok (.aload_n 0, 1) := by decide +kernel
theorem dX3_handOver_3 : decode cX3_handOver 3 = .ok (.getfield 40, 3) := by decide +kernel
theorem dX3_handOver_6 : decode cX3_handOver 6 = .ok (.isub, 1) := by decide +kernel
theorem dX3_handOver_7 : decode cX3_handOver 7 = .ok (.putfield 40, 3) := by decide +kernel
theorem dX3_handOver_10 : decode cX3_handOver 10 = .ok (.aload_n 0, 1) := by decide +kernel
theorem dX3_handOver_11 : decode cX3_handOver 11 = .ok (.iconst 0, 1) := by decide +kernel
theorem dX3_handOver_12 : decode cX3_handOver 12 = .ok (.putfield 43, 3) := by decide +kernel
theorem dX3_handOver_15 : decode cX3_handOver 15 = .ok (.return_, 1) := by decide +kernel
theorem dX4_init_0 : decode cX4_init 0 = .ok (.aload_n 0, 1) := by decide +kernel
theorem dX4_init_1 : decode cX4_init 1 = .ok (.invokespecial 3, 3) := by decide +kernel
theorem dX4_init_4 : decode cX4_init 4 = .ok (.aload_n 0, 1) := by decide +kernel
theorem dX4_init_5 : decode cX4_init 5 = .ok (.iconst 0, 1) := by decide +kernel
theorem dX4_init_6 : decode cX4_init 6 = .ok (.putfield 9, 3) := by decide +kernel
theorem dX4_init_9 : decode cX4_init 9 = .ok (.aload_n 0, 1) := by decide +kernel
theorem dX4_init_10 : decode cX4_init 10 = .ok (.bipush 7, 2) := by decide +kernel
theorem dX4_init_12 : decode cX4_init 12 = .ok (.newarray .int, 2) := by decide +kernel
theorem dX4_init_14 : decode cX4_init 14 = .ok (.putfield 15, 3) := by decide +kernel
theorem dX4_init_17 : decode cX4_init 17 = .ok (.aload_n 0, 1) := by decide +kernel
theorem dX4_init_18 : decode cX4_init 18 = .ok (.bipush 7, 2) := by decide +kernel
theorem dX4_init_20 : decode cX4_init 20 = .ok (.newarray .int, 2) := by decide +kernel
theorem dX4_init_22 : decode cX4_init 22 = .ok (.putfield 19, 3) := by decide +kernel
theorem dX4_init_25 : decode cX4_init 25 = .ok (.return_, 1) := by decide +kernel
theorem dX5_init_0 : decode cX5_init 0 = .ok (.aload_n 0, 1) := by decide +kernel
theorem dX5_init_1 : decode cX5_init 1 = .ok (.invokespecial 3, 3) := by decide +kernel
theorem dX5_init_4 : decode cX5_init 4 = .ok (.aload_n 0, 1) := by decide +kernel
theorem dX5_init_5 : decode cX5_init 5 = .ok (.iconst 0, 1) := by decide +kernel
theorem dX5_init_6 : decode cX5_init 6 = .ok (.putfield 9, 3) := by decide +kernel
theorem dX5_init_9 : decode cX5_init 9 = .ok (.aload_n 0, 1) := by decide +kernel
theorem dX5_init_10 : decode cX5_init 10 = .ok (.bipush 7, 2) := by decide +kernel
theorem dX5_init_12 : decode cX5_init 12 = .ok (.newarray .int, 2) := by decide +kernel
theorem dX5_init_14 : decode cX5_init 14 = .ok (.putfield 15, 3) := by decide +kernel
theorem dX5_init_17 : decode cX5_init 17 = .ok (.aload_n 0, 1) := by decide +kernel
theorem dX5_init_18 : decode cX5_init 18 = .ok (.bipush 7, 2) := by decide +kernel
theorem dX5_init_20 : decode cX5_init 20 = .ok (.newarray .int, 2) := by decide +kernel
theorem dX5_init_22 : decode cX5_init 22 = .ok (.putfield 19, 3) := by decide +kernel
theorem dX5_init_25 : decode cX5_init 25 = .ok (.aload_n 0, 1) := by decide +kernel
theorem dX5_init_26 : decode cX5_init 26 = .ok (.bipush 7, 2) := by decide +kernel
theorem dX5_init_28 : decode cX5_init 28 = .ok (.newarray .int, 2) := by decide +kernel
theorem dX5_init_30 : decode cX5_init 30 = .ok (.putfield 22, 3) := by decide +kernel
theorem dX5_init_33 : decode cX5_init 33 = .ok (.aload_n 0, 1) := by decide +kernel
theorem dX5_init_34 : decode cX5_init 34 = .ok (.bipush 7, 2) := by decide +kernel
theorem dX5_init_36 : decode cX5_init 36 = .ok (.newarray .int, 2) := by decide +kernel
theorem dX5_init_38 : decode cX5_init 38 = .ok (.putfield 25, 3) := by decide +kernel
theorem dX5_init_41 : decode cX5_init 41 = .ok (.aload_n 0, 1) := by decide +kernel
theorem dX5_init_42 : decode cX5_init 42 = .ok (.iconst 2, 1) := by decide +kernel
theorem dX5_init_43 : decode cX5_init 43 = .ok (.newarray .int, 2) := by decide +kernel
theorem dX5_init_45 : decode cX5_init 45 = .ok (.putfield 28, 3) := by decide +kernel
theorem dX5_init_48 : decode cX5_init 48 = .ok (.aload_n 0, 1) := by decide +kernel
theorem dX5_init_49 : decode cX5_init 49 = .ok (.iconst 0, 1) := by decide +kernel
theorem dX5_init_50 : decode cX5_init 50 = .ok (.putfield 31, 3) := by decide +kernel
theorem dX5_init_53 : decode cX5_init 53 = .ok (.aload_n 0, 1) := by decide +kernel
theorem dX5_init_54 : decode cX5_init 54 = .ok (.bipush 10, 2) := by decide +kernel
theorem dX5_init_56 : decode cX5_init 56 = .ok (.newarray .int, 2) := by decide +kernel
theorem dX5_init_58 : decode cX5_init 58 = .ok (.putfield 34, 3) := by decide +kernel
theorem dX5_init_61 : decode cX5_init 61 = .ok (.aload_n 0, 1) := by decide +kernel
theorem dX5_init_62 : decode cX5_init 62 = .ok (.iconst 0, 1) := by decide +kernel
theorem dX5_init_63 : decode cX5_init 63 = .ok (.putfield 37, 3) := by decide +kernel
theorem dX5_init_66 : decode cX5_init 66 = .ok (.aload_n 0, 1) := by decide +kernel
theorem dX5_init_67 : decode cX5_init 67 = .ok (.bipush 6, 2) := by decide +kernel
theorem dX5_init_69 : decode cX5_init 69 = .ok (.newarray .int, 2) := by decide +kernel
theorem dX5_init_71 : decode cX5_init 71 = .ok (.putfield 40, 3) := by decide +kernel
theorem dX5_init_74 : decode cX5_init 74 = .ok (.aload_n 0, 1) := by decide +kernel
theorem dX5_init_75 : decode cX5_init 75 = .ok (.new 43, 3) := by decide +kernel
theorem dX5_init_78 : decode cX5_init 78 = .ok (.dup, 1) := by decide +kernel
theorem dX5_init_79 : decode cX5_init 79 = .ok (.invokespecial 45, 3) := by decide +kernel
theorem dX5_init_82 : decode cX5_init 82 = .ok (.putfield 46, 3) := by decide +kernel
theorem dX5_init_85 : decode cX5_init 85 = .ok (.aload_n 0, 1) := by decide +kernel
theorem dX5_init_86 : decode cX5_init 86 = .ok (.new 43, 3) := by decide +kernel
theorem dX5_init_89 : decode cX5_init 89 = .ok (.dup, 1) := by decide +kernel
theorem dX5_init_90 : decode cX5_init 90 = .ok (.invokespecial 45, 3) := by decide +kernel
theorem dX5_init_93 : decode cX5_init 93 = .ok (.putfield 50, 3) := by decide +kernel
theorem dX5_init_96 : decode cX5_init 96 = .ok (.sipush 700, 3) := by decide +kernel
theorem dX5_init_99 : decode cX5_init 99 = .ok (.newarray .int, 2) := by decide +kernel
theorem dX5_init_101 : decode cX5_init 101 = .ok (.astore_n 1, 1) := by decide +kernel
theorem dX5_init_102 : decode cX5_init 102 = .ok (.aload_n 0, 1) := by decide +kernel
theorem dX5_init_103 : decode cX5_init 103 = .ok (.new 53, 3) := by decide +kernel
theorem dX5_init_106 : decode cX5_init 106 = .ok (.dup, 1) := by decide +kernel
theorem dX5_init_107 : decode cX5_init 107 = .ok (.aload_n 1, 1) := by decide +kernel
theorem dX5_init_108 : decode cX5_init 108 = .ok (.invokespecial 55, 3) := by decide +kernel
theorem dX5_init_111 : decode cX5_init 111 = .ok (.putfield 58, 3) := by decide +kernel
theorem dX5_init_114 : decode cX5_init 114 = .ok (.aload_n 0, 1) := by decide +kernel
theorem dX5_init_115 : decode cX5_init 115 = .ok (.new 53, 3) := by decide +kernel
theorem dX5_init_118 : decode cX5_init 118 = .ok (.dup, 1) := by decide +kernel
theorem dX5_init_119 : decode cX5_init 119 = .ok (.aload_n 1, 1) := by decide +kernel
theorem dX5_init_120 : decode cX5_init 120 = .ok (.invokespecial 55, 3) := by decide +kernel
theorem dX5_init_123 : decode cX5_init 123 = .ok (.putfield 62, 3) := by decide +kernel
theorem dX5_init_126 : decode cX5_init 126 = .ok (.return_, 1) := by decide +kernel
theorem dX5_clear_0 : decode cX5_clear 0 = .ok (.aload_n 0, 1) := by decide +kernel
theorem dX5_clear_1 : decode cX5_clear 1 = .ok (.iconst 0, 1) := by decide +kernel
theorem dX5_clear_2 : decode cX5_clear 2 = .ok (.putfield 9, 3) := by decide +kernel
theorem dX5_clear_5 : decode cX5_clear 5 = .ok (.aload_n 0, 1) := by decide +kernel
theorem dX5_clear_6 : decode cX5_clear 6 = .ok (.getfield 28, 3) := by decide +kernel
theorem dX5_clear_9 : decode cX5_clear 9 = .ok (.iconst 0, 1) := by decide +kernel
theorem dX5_clear_10 : decode cX5_clear 10 = .ok (.iconst 0, 1) := by decide +kernel
theorem dX5_clear_11 : decode cX5_clear 11 = .ok (.iastore, 1) := by decide +kernel
theorem dX5_clear_12 : decode cX5_clear 12 = .ok (.aload_n 0, 1) := by decide +kernel
theorem dX5_clear_13 : decode cX5_clear 13 = .ok (.getfield 28, 3) := by decide +kernel
theorem dX5_clear_16 : decode cX5_clear 16 = .ok (.iconst 1, 1) := by decide +kernel
theorem dX5_clear_17 : decode cX5_clear 17 = .ok (.iconst 0, 1) := by decide +kernel
theorem dX5_clear_18 : decode cX5_clear 18 = .ok (.iastore, 1) := by decide +kernel
theorem dX5_clear_19 : decode cX5_clear 19 = .ok (.aload_n 0, 1) := by decide +kernel
theorem dX5_clear_20 : decode cX5_clear 20 = .ok (.iconst 0, 1) := by decide +kernel
theorem dX5_clear_21 : decode cX5_clear 21 = .ok (.putfield 31, 3) := by decide +kernel
theorem dX5_clear_24 : decode cX5_clear 24 = .ok (.aload_n 0, 1) := by decide +kernel
theorem dX5_clear_25 : decode cX5_clear 25 = .ok (.iconst 0, 1) := by decide +kernel
theorem dX5_clear_26 : decode cX5_clear 26 = .ok (.putfield 37, 3) := by decide +kernel
theorem dX5_clear_29 : decode cX5_clear 29 = .ok (.aload_n 0, 1) := by decide +kernel
theorem dX5_clear_30 : decode cX5_clear 30 = .ok (.getfield 46, 3) := by decide +kernel
theorem dX5_clear_33 : decode cX5_clear 33 = .ok (.iconst 0, 1) := by decide +kernel
theorem dX5_clear_34 : decode cX5_clear 34 = .ok (.putfield 65, 3) := by decide +kernel
theorem dX5_clear_37 : decode cX5_clear 37 = .ok (.aload_n 0, 1) := by decide +kernel
theorem dX5_clear_38 : decode cX5_clear 38 = .ok (.getfield 50, 3) := by decide +kernel
theorem dX5_clear_41 : decode cX5_clear 41 = .ok (.iconst 0, 1) := by decide +kernel
theorem dX5_clear_42 : decode cX5_clear 42 = .ok (.putfield 65, 3) := by decide +kernel
theorem dX5_clear_45 : decode cX5_clear 45 = .ok (.aload_n 0, 1) := by decide +kernel
theorem dX5_clear_46 : decode cX5_clear 46 = .ok (.getfield 58, 3) := by decide +kernel
theorem dX5_clear_49 : decode cX5_clear 49 = .ok (.iconst 0, 1) := by decide +kernel
theorem dX5_clear_50 : decode cX5_clear 50 = .ok (.invokevirtual 68, 3) := by decide +kernel
theorem dX5_clear_53 : decode cX5_clear 53 = .ok (.aload_n 0, 1) := by decide +kernel
theorem dX5_clear_54 : decode cX5_clear 54 = .ok (.getfield 62, 3) := by decide +kernel
theorem dX5_clear_57 : decode cX5_clear 57 = .ok (.iconst 0, 1) := by decide +kernel
theorem dX5_clear_58 : decode cX5_clear 58 = .ok (.invokevirtual 68, 3) := by decide +kernel
theorem dX5_clear_61 : decode cX5_clear 61 = .ok (.return_, 1) := by decide +kernel
theorem dX6_init_0 : decode cX6_init 0 = .ok (.aload_n 0, 1) := by decide +kernel
theorem dX6_init_1 : decode cX6_init 1 = .ok (.invokespecial 3, 3) := by decide +kernel
theorem dX6_init_4 : decode cX6_init 4 = .ok (.aload_n 0, 1) := by decide +kernel
theorem dX6_init_5 : decode cX6_init 5 = .ok (.new 9, 3) := by decide +kernel
theorem dX6_init_8 : decode cX6_init 8 = .ok (.dup, 1) := by decide +kernel
theorem dX6_init_9 : decode cX6_init 9 = .ok (.invokespecial 11, 3) := by decide +kernel
theorem dX6_init_12 : decode cX6_init 12 = .ok (.putfield 12, 3) := by decide +kernel
theorem dX6_init_15 : decode cX6_init 15 = .ok (.aload_n 0, 1) := by decide +kernel
theorem dX6_init_16 : decode cX6_init 16 = .ok (.new 18, 3) := by decide +kernel
theorem dX6_init_19 : decode cX6_init 19 = .ok (.dup, 1) := by decide +kernel
theorem dX6_init_20 : decode cX6_init 20 = .ok (.invokespecial 20, 3) := by decide +kernel
theorem dX6_init_23 : decode cX6_init 23 = .ok (.putfield 21, 3) := by decide +kernel
theorem dX6_init_26 : decode cX6_init 26 = .ok (.aload_n 0, 1) := by decide +kernel
theorem dX6_init_27 : decode cX6_init 27 = .ok (.iconst 0, 1) := by decide +kernel
theorem dX6_init_28 : decode cX6_init 28 = .ok (.putfield 25, 3) := by decide +kernel
theorem dX6_init_31 : decode cX6_init 31 = .ok (.aload_n 0, 1) := by decide +kernel
theorem dX6_init_32 : decode cX6_init 32 = .ok (.iconst 0, 1) := by decide +kernel
theorem dX6_init_33 : decode cX6_init 33 = .ok (.putfield 29, 3) := by decide +kernel
theorem dX6_init_36 : decode cX6_init 36 = .ok (.aload_n 0, 1) := by decide +kernel
theorem dX6_init_37 : decode cX6_init 37 = .ok (.iconst 0, 1) := by decide +kernel
theorem dX6_init_38 : decode cX6_init 38 = .ok (.putfield 32, 3) := by decide +kernel
theorem dX6_init_41 : decode cX6_init 41 = .ok (.aload_n 0, 1) := by decide +kernel
theorem dX6_init_42 : decode cX6_init 42 = .ok (.iconst 4, 1) := by decide +kernel
theorem dX6_init_43 : decode cX6_init 43 = .ok (.newarray .int, 2) := by decide +kernel
theorem dX6_init_45 : decode cX6_init 45 = .ok (.putfield 35, 3) := by decide +kernel
theorem dX6_init_48 : decode cX6_init 48 = .ok (.aload_n 0, 1) := by decide +kernel
theorem dX6_init_49 : decode cX6_init 49 = .ok (.new 39, 3) := by decide +kernel
theorem dX6_init_52 : decode cX6_init 52 = .ok (.dup, 1) := by decide +kernel
theorem dX6_init_53 : decode cX6_init 53 = .ok (.aload_n 1, 1) := by decide +kernel
theorem dX6_init_54 : decode cX6_init 54 = .ok (.invokespecial 41, 3) := by decide +kernel
theorem dX6_init_57 : decode cX6_init 57 = .ok (.putfield 44, 3) := by decide +kernel
theorem dX6_init_60 : decode cX6_init 60 = .ok (.aload_n 0, 1) := by decide +kernel
theorem dX6_init_61 : decode cX6_init 61 = .ok (.aload_n 0, 1) := by decide +kernel
theorem dX6_init_62 : decode cX6_init 62 = .ok (.getfield 12, 3) := by decide +kernel
theorem dX6_init_65 : decode cX6_init 65 = .ok (.getfield 48, 3) := by decide +kernel
theorem dX6_init_68 : decode cX6_init 68 = .ok (.putfield 52, 3) := by decide +kernel
theorem dX6_init_71 : decode cX6_init 71 = .ok (.return_, 1) := by decide +kernel
theorem dX6_parse_0 : decode cX6_parse 0 = .ok (.aload_n 0, 1) := by decide +kernel
theorem dX6_parse_1 : decode cX6_parse 1 = .ok (.getfield 12, 3) := by decide +kernel
theorem dX6_parse_4 : decode cX6_parse 4 = .ok (.invokevirtual 55, 3) := by decide +kernel
theorem dX6_parse_7 : decode cX6_parse 7 = .ok (.aload_n 0, 1) := by decide +kernel
theorem dX6_parse_8 : decode cX6_parse 8 = .ok (.getfield 21, 3) := by decide +kernel
theorem dX6_parse_11 : decode cX6_parse 11 = .ok (.invokevirtual 58, 3) := by decide +kernel
theorem dX6_parse_14 : decode cX6_parse 14 = .ok (.aload_n 0, 1) := by decide +kernel
theorem dX6_parse_15 : decode cX6_parse 15 = .ok (.iconst 0, 1) := by decide +kernel
theorem dX6_parse_16 : decode cX6_parse 16 = .ok (.putfield 25, 3) := by decide +kernel
theorem dX6_parse_19 : decode cX6_parse 19 = .ok (.aload_n 0, 1) := by decide +kernel
theorem dX6_parse_20 : decode cX6_parse 20 = .ok (.iconst 0, 1) := by decide +kernel
theorem dX6_parse_21 : decode cX6_parse 21 = .ok (.putfield 32, 3) := by decide +kernel
theorem dX6_parse_24 : decode cX6_parse 24 = .ok (.aload_n 0, 1) := by decide +kernel
theorem dX6_parse_25 : decode cX6_parse 25 = .ok (.getfield 44, 3) := by decide +kernel
theorem dX6_parse_28 : decode cX6_parse 28 = .ok (.iload_n 1, 1) := by decide +kernel
theorem dX6_parse_29 : decode cX6_parse 29 = .ok (.invokevirtual 61, 3) := by decide +kernel
theorem dX6_parse_32 : decode cX6_parse 32 = .ok (.iconst 0, 1) := by decide +kernel
theorem dX6_parse_33 : decode cX6_parse 33 = .ok (.istore_n 2, 1) := by decide +kernel
theorem dX6_parse_34 : decode cX6_parse 34 = .ok (.iload_n 2, 1) := by decide +kernel
theorem dX6_parse_35 : decode cX6_parse 35 = .ok (.sipush 700, 3) := by decide +kernel
theorem dX6_parse_38 : decode cX6_parse 38 = .ok (.if_icmp .gt 31, 3) := by decide +kernel
theorem dX6_parse_41 : decode cX6_parse 41 = .ok (.aload_n 0, 1) := by decide +kernel
theorem dX6_parse_42 : decode cX6_parse 42 = .ok (.getfield 44, 3) := by decide +kernel
theorem dX6_parse_45 : decode cX6_parse 45 = .ok (.getfield 65, 3) := by decide +kernel
theorem dX6_parse_48 : decode cX6_parse 48 = .ok (.ifCond .eq 21, 3) := by decide +kernel
theorem dX6_parse_51 : decode cX6_parse 51 = .ok (.aload_n 0, 1) := by decide +kernel
theorem dX6_parse_52 : decode cX6_parse 52 = .ok (.invokevirtual 68, 3) := by decide +kernel
theorem dX6_parse_55 : decode cX6_parse 55 = .ok (.ifCond .ne 8, 3) := by decide +kernel
theorem dX6_parse_58 : decode cX6_parse 58 = .ok (.aload_n 0, 1) := by decide +kernel
theorem dX6_parse_59 : decode cX6_parse 59 = .ok (.getfield 25, 3) := by decide +kernel
theorem dX6_parse_62 : decode cX6_parse 62 = .ok (.ireturn, 1) := by decide +kernel
theorem dX6_parse_63 : decode cX6_parse 63 = .ok (.iinc 2 1, 3) := by decide +kernel
theorem dX6_parse_66 : decode cX6_parse 66 = .ok (.goto (-32), 3) := by decide +kernel
theorem dX6_parse_69 : decode cX6_parse 69 = .ok (.iconst 0, 1) := by decide +kernel
theorem dX6_parse_70 : decode cX6_parse 70 = .ok (.ireturn, 1) := by decide +kernel
theorem dX6_refuse_0 : decode cX6_refuse 0 = .ok (.aload_n 0, 1) := by decide +kernel
theorem dX6_refuse_1 : decode cX6_refuse 1 = .ok (.iload_n 1, 1) := by decide +kernel
theorem dX6_refuse_2 : decode cX6_refuse 2 = .ok (.putfield 25, 3) := by decide +kernel
theorem dX6_refuse_5 : decode cX6_refuse 5 = .ok (.aload_n 0, 1) := by decide +kernel
theorem dX6_refuse_6 : decode cX6_refuse 6 = .ok (.aload_n 0, 1) := by decide +kernel
theorem dX6_refuse_7 : decode cX6_refuse 7 = .ok (.getfield 44, 3) := by decide +kernel
theorem dX6_refuse_10 : decode cX6_refuse 10 = .ok (.getfield 72, 3) := by decide +kernel
theorem dX6_refuse_13 : decode cX6_refuse 13 = .ok (.putfield 29, 3) := by decide +kernel
theorem dX6_refuse_16 : decode cX6_refuse 16 = .ok (.iconst 0, 1) := by decide +kernel
theorem dX6_refuse_17 : decode cX6_refuse 17 = .ok (.ireturn, 1) := by decide +kernel
theorem dX6_line_0 : decode cX6_line 0 = .ok (.getstatic 73, 3) := by decide +kernel
theorem dX6_line_3 : decode cX6_line 3 = .ok (.aload_n 0, 1) := by decide +kernel
theorem dX6_line_4 : decode cX6_line 4 = .ok (.getfield 44, 3) := by decide +kernel
theorem dX6_line_7 : decode cX6_line 7 = .ok (.getfield 78, 3) := by decide +kernel
theorem dX6_line_10 : decode cX6_line 10 = .ok (.invokevirtual 82, 3) := by decide +kernel
theorem dX6_line_13 : decode cX6_line 13 = .ok (.iaload, 1) := by decide +kernel
theorem dX6_line_14 : decode cX6_line 14 = .ok (.tableswitch 361 1 11 #[58, 79, 108, 130, 152, 174, 196, 225, 264, 303, 332], 58) := by decide +kernel
theorem dX6_line_72 : decode cX6_line 72 = .ok (.aload_n 0, 1) := by decide +kernel
theorem dX6_line_73 : decode cX6_line 73 = .ok (.iconst 1, 1) := by decide +kernel
theorem dX6_line_74 : decode cX6_line 74 = .ok (.invokevirtual 88, 3) := by decide +kernel
theorem dX6_line_77 : decode cX6_line 77 = .ok (.ifCond .eq 14, 3) := by decide +kernel
theorem dX6_line_80 : decode cX6_line 80 = .ok (.aload_n 0, 1) := by decide +kernel
theorem dX6_line_81 : decode cX6_line 81 = .ok (.invokevirtual 92, 3) := by decide +kernel
theorem dX6_line_84 : decode cX6_line 84 = .ok (.ifCond .eq 7, 3) := by decide +kernel
theorem dX6_line_87 : decode cX6_line 87 = .ok (.iconst 1, 1) := by decide +kernel
theorem dX6_line_88 : decode cX6_line 88 = .ok (.goto 4, 3) := by decide +kernel
theorem dX6_line_91 : decode cX6_line 91 = .ok (.iconst 0, 1) := by decide +kernel
theorem dX6_line_92 : decode cX6_line 92 = .ok (.ireturn, 1) := by decide +kernel
theorem dX6_line_93 : decode cX6_line 93 = .ok (.aload_n 0, 1) := by decide +kernel
theorem dX6_line_94 : decode cX6_line 94 = .ok (.aload_n 0, 1) := by decide +kernel
theorem dX6_line_95 : decode cX6_line 95 = .ok (.getfield 12, 3) := by decide +kernel
theorem dX6_line_98 : decode cX6_line 98 = .ok (.getfield 95, 3) := by decide +kernel
theorem dX6_line_101 : decode cX6_line 101 = .ok (.bipush 7, 2) := by decide +kernel
theorem dX6_line_103 : decode cX6_line 103 = .ok (.invokevirtual 98, 3) := by decide +kernel
theorem dX6_line_106 : decode cX6_line 106 = .ok (.ifCond .eq 14, 3) := by decide +kernel
theorem dX6_line_109 : decode cX6_line 109 = .ok (.aload_n 0, 1) := by decide +kernel
theorem dX6_line_110 : decode cX6_line 110 = .ok (.invokevirtual 102, 3) := by decide +kernel
theorem dX6_line_113 : decode cX6_line 113 = .ok (.ifCond .eq 7, 3) := by decide +kernel
theorem dX6_line_116 : decode cX6_line 116 = .ok (.iconst 1, 1) := by decide +kernel
theorem dX6_line_117 : decode cX6_line 117 = .ok (.goto 4, 3) := by decide +kernel
theorem dX6_line_120 : decode cX6_line 120 = .ok (.iconst 0, 1) := by decide +kernel
theorem dX6_line_121 : decode cX6_line 121 = .ok (.ireturn, 1) := by decide +kernel
theorem dX6_line_122 : decode cX6_line 122 = .ok (.aload_n 0, 1) := by decide +kernel
theorem dX6_line_123 : decode cX6_line 123 = .ok (.iconst 2, 1) := by decide +kernel
theorem dX6_line_124 : decode cX6_line 124 = .ok (.invokevirtual 88, 3) := by decide +kernel
theorem dX6_line_127 : decode cX6_line 127 = .ok (.ifCond .eq 15, 3) := by decide +kernel
theorem dX6_line_130 : decode cX6_line 130 = .ok (.aload_n 0, 1) := by decide +kernel
theorem dX6_line_131 : decode cX6_line 131 = .ok (.iconst 0, 1) := by decide +kernel
theorem dX6_line_132 : decode cX6_line 132 = .ok (.invokevirtual 105, 3) := by decide +kernel
theorem dX6_line_135 : decode cX6_line 135 = .ok (.ifCond .eq 7, 3) := by decide +kernel
theorem dX6_line_138 : decode cX6_line 138 = .ok (.iconst 1, 1) := by decide +kernel
theorem dX6_line_139 : decode cX6_line 139 = .ok (.goto 4, 3) := by decide +kernel
theorem dX6_line_142 : decode cX6_line 142 = .ok (.iconst 0, 1) := by decide +kernel
theorem dX6_line_143 : decode cX6_line 143 = .ok (.ireturn, 1) := by decide +kernel
theorem dX6_line_144 : decode cX6_line 144 = .ok (.aload_n 0, 1) := by decide +kernel
theorem dX6_line_145 : decode cX6_line 145 = .ok (.iconst 4, 1) := by decide +kernel
theorem dX6_line_146 : decode cX6_line 146 = .ok (.invokevirtual 88, 3) := by decide +kernel
theorem dX6_line_149 : decode cX6_line 149 = .ok (.ifCond .eq 15, 3) := by decide +kernel
theorem dX6_line_152 : decode cX6_line 152 = .ok (.aload_n 0, 1) := by decide +kernel
theorem dX6_line_153 : decode cX6_line 153 = .ok (.iconst 1, 1) := by decide +kernel
theorem dX6_line_154 : decode cX6_line 154 = .ok (.invokevirtual 105, 3) := by decide +kernel
theorem dX6_line_157 : decode cX6_line 157 = .ok (.ifCond .eq 7, 3) := by decide +kernel
theorem dX6_line_160 : decode cX6_line 160 = .ok (.iconst 1, 1) := by decide +kernel
theorem dX6_line_161 : decode cX6_line 161 = .ok (.goto 4, 3) := by decide +kernel
theorem dX6_line_164 : decode cX6_line 164 = .ok (.iconst 0, 1) := by decide +kernel
theorem dX6_line_165 : decode cX6_line 165 = .ok (.ireturn, 1) := by decide +kernel
theorem dX6_line_166 : decode cX6_line 166 = .ok (.aload_n 0, 1) := by decide +kernel
theorem dX6_line_167 : decode cX6_line 167 = .ok (.bipush 8, 2) := by decide +kernel
theorem dX6_line_169 : decode cX6_line 169 = .ok (.invokevirtual 88, 3) := by decide +kernel
theorem dX6_line_172 : decode cX6_line 172 = .ok (.ifCond .eq 14, 3) := by decide +kernel
theorem dX6_line_175 : decode cX6_line 175 = .ok (.aload_n 0, 1) := by decide +kernel
theorem dX6_line_176 : decode cX6_line 176 = .ok (.invokevirtual 108, 3) := by decide +kernel
theorem dX6_line_179 : decode cX6_line 179 = .ok (.ifCond .eq 7, 3) := by decide +kernel
theorem dX6_line_182 : decode cX6_line 182 = .ok (.iconst 1, 1) := by decide +kernel
theorem dX6_line_183 : decode cX6_line 183 = .ok (.goto 4, 3) := by decide +kernel
theorem dX6_line_186 : decode cX6_line 186 = .ok (.iconst 0, 1) := by decide +kernel
theorem dX6_line_187 : decode cX6_line 187 = .ok (.ireturn, 1) := by decide +kernel
theorem dX6_line_188 : decode cX6_line 188 = .ok (.aload_n 0, 1) := by decide +kernel
theorem dX6_line_189 : decode cX6_line 189 = .ok (.bipush 16, 2) := by decide +kernel
theorem dX6_line_191 : decode cX6_line 191 = .ok (.invokevirtual 88, 3) := by decide +kernel
theorem dX6_line_194 : decode cX6_line 194 = .ok (.ifCond .eq 14, 3) := by decide +kernel
theorem dX6_line_197 : decode cX6_line 197 = .ok (.aload_n 0, 1) := by decide +kernel
theorem dX6_line_198 : decode cX6_line 198 = .ok (.invokevirtual 111, 3) := by decide +kernel
theorem dX6_line_201 : decode cX6_line 201 = .ok (.ifCond .eq 7, 3) := by decide +kernel
theorem dX6_line_204 : decode cX6_line 204 = .ok (.iconst 1, 1) := by decide +kernel
theorem dX6_line_205 : decode cX6_line 205 = .ok (.goto 4, 3) := by decide +kernel
theorem dX6_line_208 : decode cX6_line 208 = .ok (.iconst 0, 1) := by decide +kernel
theorem dX6_line_209 : decode cX6_line 209 = .ok (.ireturn, 1) := by decide +kernel
theorem dX6_line_210 : decode cX6_line 210 = .ok (.aload_n 0, 1) := by decide +kernel
theorem dX6_line_211 : decode cX6_line 211 = .ok (.aload_n 0, 1) := by decide +kernel
theorem dX6_line_212 : decode cX6_line 212 = .ok (.getfield 12, 3) := by decide +kernel
theorem dX6_line_215 : decode cX6_line 215 = .ok (.getfield 114, 3) := by decide +kernel
theorem dX6_line_218 : decode cX6_line 218 = .ok (.bipush 6, 2) := by decide +kernel
theorem dX6_line_220 : decode cX6_line 220 = .ok (.invokevirtual 98, 3) := by decide +kernel
theorem dX6_line_223 : decode cX6_line 223 = .ok (.ifCond .eq 14, 3) := by decide +kernel
theorem dX6_line_226 : decode cX6_line 226 = .ok (.aload_n 0, 1) := by decide +kernel
theorem dX6_line_227 : decode cX6_line 227 = .ok (.invokevirtual 117, 3) := by decide +kernel
theorem dX6_line_230 : decode cX6_line 230 = .ok (.ifCond .eq 7, 3) := by decide +kernel
theorem dX6_line_233 : decode cX6_line 233 = .ok (.iconst 1, 1) := by decide +kernel
theorem dX6_line_234 : decode cX6_line 234 = .ok (.goto 4, 3) := by decide +kernel
theorem dX6_line_237 : decode cX6_line 237 = .ok (.iconst 0, 1) := by decide +kernel
theorem dX6_line_238 : decode cX6_line 238 = .ok (.ireturn, 1) := by decide +kernel
theorem dX6_line_239 : decode cX6_line 239 = .ok (.aload_n 0, 1) := by decide +kernel
theorem dX6_line_240 : decode cX6_line 240 = .ok (.aload_n 0, 1) := by decide +kernel
theorem dX6_line_241 : decode cX6_line 241 = .ok (.getfield 12, 3) := by decide +kernel
theorem dX6_line_244 : decode cX6_line 244 = .ok (.getfield 120, 3) := by decide +kernel
theorem dX6_line_247 : decode cX6_line 247 = .ok (.getfield 124, 3) := by decide +kernel
theorem dX6_line_250 : decode cX6_line 250 = .ok (.bipush 7, 2) := by decide +kernel
theorem dX6_line_252 : decode cX6_line 252 = .ok (.invokevirtual 98, 3) := by decide +kernel
theorem dX6_line_255 : decode cX6_line 255 = .ok (.ifCond .eq 21, 3) := by decide +kernel
theorem dX6_line_258 : decode cX6_line 258 = .ok (.aload_n 0, 1) := by decide +kernel
theorem dX6_line_259 : decode cX6_line 259 = .ok (.aload_n 0, 1) := by decide +kernel
theorem dX6_line_260 : decode cX6_line 260 = .ok (.getfield 12, 3) := by decide +kernel
theorem dX6_line_263 : decode cX6_line 263 = .ok (.getfield 120, 3) := by decide +kernel
theorem dX6_line_266 : decode cX6_line 266 = .ok (.invokevirtual 129, 3) := by decide +kernel
theorem dX6_line_269 : decode cX6_line 269 = .ok (.ifCond .eq 7, 3) := by decide +kernel
theorem dX6_line_272 : decode cX6_line 272 = .ok (.iconst 1, 1) := by decide +kernel
theorem dX6_line_273 : decode cX6_line 273 = .ok (.goto 4, 3) := by decide +kernel
theorem dX6_line_276 : decode cX6_line 276 = .ok (.iconst 0, 1) := by decide +kernel
theorem dX6_line_277 : decode cX6_line 277 = .ok (.ireturn, 1) := by decide +kernel
theorem dX6_line_278 : decode cX6_line 278 = .ok (.aload_n 0, 1) := by decide +kernel
theorem dX6_line_279 : decode cX6_line 279 = .ok (.aload_n 0, 1) := by decide +kernel
theorem dX6_line_280 : decode cX6_line 280 = .ok (.getfield 12, 3) := by decide +kernel
theorem dX6_line_283 : decode cX6_line 283 = .ok (.getfield 133, 3) := by decide +kernel
theorem dX6_line_286 : decode cX6_line 286 = .ok (.getfield 124, 3) := by decide +kernel
theorem dX6_line_289 : decode cX6_line 289 = .ok (.bipush 7, 2) := by decide +kernel
theorem dX6_line_291 : decode cX6_line 291 = .ok (.invokevirtual 98, 3) := by decide +kernel
theorem dX6_line_294 : decode cX6_line 294 = .ok (.ifCond .eq 21, 3) := by decide +kernel
theorem dX6_line_297 : decode cX6_line 297 = .ok (.aload_n 0, 1) := by decide +kernel
theorem dX6_line_298 : decode cX6_line 298 = .ok (.aload_n 0, 1) := by decide +kernel
theorem dX6_line_299 : decode cX6_line 299 = .ok (.getfield 12, 3) := by decide +kernel
theorem dX6_line_302 : decode cX6_line 302 = .ok (.getfield 133, 3) := by decide +kernel
theorem dX6_line_305 : decode cX6_line 305 = .ok (.invokevirtual 129, 3) := by decide +kernel
theorem dX6_line_308 : decode cX6_line 308 = .ok (.ifCond .eq 7, 3) := by decide +kernel
theorem dX6_line_311 : decode cX6_line 311 = .ok (.iconst 1, 1) := by decide +kernel
theorem dX6_line_312 : decode cX6_line 312 = .ok (.goto 4, 3) := by decide +kernel
theorem dX6_line_315 : decode cX6_line 315 = .ok (.iconst 0, 1) := by decide +kernel
theorem dX6_line_316 : decode cX6_line 316 = .ok (.ireturn, 1) := by decide +kernel
theorem dX6_line_317 : decode cX6_line 317 = .ok (.aload_n 0, 1) := by decide +kernel
theorem dX6_line_318 : decode cX6_line 318 = .ok (.bipush 32, 2) := by decide +kernel
theorem dX6_line_320 : decode cX6_line 320 = .ok (.invokevirtual 88, 3) := by decide +kernel
theorem dX6_line_323 : decode cX6_line 323 = .ok (.ifCond .eq 21, 3) := by decide +kernel
theorem dX6_line_326 : decode cX6_line 326 = .ok (.aload_n 0, 1) := by decide +kernel
theorem dX6_line_327 : decode cX6_line 327 = .ok (.aload_n 0, 1) := by decide +kernel
theorem dX6_line_328 : decode cX6_line 328 = .ok (.getfield 12, 3) := by decide +kernel
theorem dX6_line_331 : decode cX6_line 331 = .ok (.getfield 48, 3) := by decide +kernel
theorem dX6_line_334 : decode cX6_line 334 = .ok (.invokevirtual 136, 3) := by decide +kernel
theorem dX6_line_337 : decode cX6_line 337 = .ok (.ifCond .eq 7, 3) := by decide +kernel
theorem dX6_line_340 : decode cX6_line 340 = .ok (.iconst 1, 1) := by decide +kernel
theorem dX6_line_341 : decode cX6_line 341 = .ok (.goto 4, 3) := by decide +kernel
theorem dX6_line_344 : decode cX6_line 344 = .ok (.iconst 0, 1) := by decide +kernel
theorem dX6_line_345 : decode cX6_line 345 = .ok (.ireturn, 1) := by decide +kernel
theorem dX6_line_346 : decode cX6_line 346 = .ok (.aload_n 0, 1) := by decide +kernel
theorem dX6_line_347 : decode cX6_line 347 = .ok (.bipush 64, 2) := by decide +kernel
theorem dX6_line_349 : decode cX6_line 349 = .ok (.invokevirtual 88, 3) := by decide +kernel
theorem dX6_line_352 : decode cX6_line 352 = .ok (.ifCond .eq 21, 3) := by decide +kernel
theorem dX6_line_355 : decode cX6_line 355 = .ok (.aload_n 0, 1) := by decide +kernel
theorem dX6_line_356 : decode cX6_line 356 = .ok (.aload_n 0, 1) := by decide +kernel
theorem dX6_line_357 : decode cX6_line 357 = .ok (.getfield 12, 3) := by decide +kernel
theorem dX6_line_360 : decode cX6_line 360 = .ok (.getfield 140, 3) := by decide +kernel
theorem dX6_line_363 : decode cX6_line 363 = .ok (.invokevirtual 136, 3) := by decide +kernel
theorem dX6_line_366 : decode cX6_line 366 = .ok (.ifCond .eq 7, 3) := by decide +kernel
theorem dX6_line_369 : decode cX6_line 369 = .ok (.iconst 1, 1) := by decide +kernel
theorem dX6_line_370 : decode cX6_line 370 = .ok (.goto 4, 3) := by decide +kernel
theorem dX6_line_373 : decode cX6_line 373 = .ok (.iconst 0, 1) := by decide +kernel
theorem dX6_line_374 : decode cX6_line 374 = .ok (.ireturn, 1) := by decide +kernel
theorem dX6_line_375 : decode cX6_line 375 = .ok (.aload_n 0, 1) := by decide +kernel
theorem dX6_line_376 : decode cX6_line 376 = .ok (.iconst 1, 1) := by decide +kernel
theorem dX6_line_377 : decode cX6_line 377 = .ok (.invokevirtual 143, 3) := by decide +kernel
theorem dX6_line_380 : decode cX6_line 380 = .ok (.ireturn, 1) := by decide +kernel
theorem dX6_once_0 : decode cX6_once 0 = .ok (.aload_n 0, 1) := by decide +kernel
theorem dX6_once_1 : decode cX6_once 1 = .ok (.getfield 32, 3) := by decide +kernel
theorem dX6_once_4 : decode cX6_once 4 = .ok (.iload_n 1, 1) := by decide +kernel
theorem dX6_once_5 : decode cX6_once 5 = .ok (.iand, 1) := by decide +kernel
theorem dX6_once_6 : decode cX6_once 6 = .ok (.ifCond .eq 9, 3) := by decide +kernel
theorem dX6_once_9 : decode cX6_once 9 = .ok (.aload_n 0, 1) := by decide +kernel
theorem dX6_once_10 : decode cX6_once 10 = .ok (.iconst 5, 1) := by decide +kernel
theorem dX6_once_11 : decode cX6_once 11 = .ok (.invokevirtual 143, 3) := by decide +kernel
theorem dX6_once_14 : decode cX6_once 14 = .ok (.ireturn, 1) := by decide +kernel
theorem dX6_once_15 : decode cX6_once 15 = .ok (.aload_n 0, 1) := by decide +kernel
theorem dX6_once_16 : decode cX6_once 16 = .ok (.dup, 1) := by decide +kernel
theorem dX6_once_17 : decode cX6_once 17 = .ok (.getfield 32, 3) := by decide +kernel
theorem dX6_once_20 : decode cX6_once 20 = .ok (.iload_n 1, 1) := by decide +kernel
theorem dX6_once_21 : decode cX6_once 21 = .ok (.ior, 1) := by decide +kernel
theorem dX6_once_22 : decode cX6_once 22 = .ok (.putfield 32, 3) := by decide +kernel
theorem dX6_once_25 : decode cX6_once 25 = .ok (.aload_n 0, 1) := by decide +kernel
theorem dX6_once_26 : decode cX6_once 26 = .ok (.getfield 44, 3) := by decide +kernel
theorem dX6_once_29 : decode cX6_once 29 = .ok (.invokevirtual 146, 3) := by decide +kernel
theorem dX6_once_32 : decode cX6_once 32 = .ok (.iconst 1, 1) := by decide +kernel
theorem dX6_once_33 : decode cX6_once 33 = .ok (.ireturn, 1) := by decide +kernel
theorem dX6_below_0 : decode cX6_below 0 = .ok (.iload_n 1, 1) := by decide +kernel
theorem dX6_below_1 : decode cX6_below 1 = .ok (.iload_n 2, 1) := by decide +kernel
theorem dX6_below_2 : decode cX6_below 2 = .ok (.if_icmp .lt 9, 3) := by decide +kernel
theorem dX6_below_5 : decode cX6_below 5 = .ok (.aload_n 0, 1) := by decide +kernel
theorem dX6_below_6 : decode cX6_below 6 = .ok (.iconst 2, 1) := by decide +kernel
theorem dX6_below_7 : decode cX6_below 7 = .ok (.invokevirtual 143, 3) := by decide +kernel
theorem dX6_below_10 : decode cX6_below 10 = .ok (.ireturn, 1) := by decide +kernel
theorem dX6_below_11 : decode cX6_below 11 = .ok (.aload_n 0, 1) := by decide +kernel
theorem dX6_below_12 : decode cX6_below 12 = .ok (.getfield 44, 3) := by decide +kernel
theorem dX6_below_15 : decode cX6_below 15 = .ok (.invokevirtual 146, 3) := by decide +kernel
theorem dX6_below_18 : decode cX6_below 18 = .ok (.iconst 1, 1) := by decide +kernel
theorem dX6_below_19 : decode cX6_below 19 = .ok (.ireturn, 1) := by decide +kernel
theorem dX6_close_0 : decode cX6_close 0 = .ok (.aload_n 0, 1) := by decide +kernel
theorem dX6_close_1 : decode cX6_close 1 = .ok (.getfield 44, 3) := by decide +kernel
theorem dX6_close_4 : decode cX6_close 4 = .ok (.getfield 65, 3) := by decide +kernel
theorem dX6_close_7 : decode cX6_close 7 = .ok (.bipush 59, 2) := by decide +kernel
theorem dX6_close_9 : decode cX6_close 9 = .ok (.if_icmp .eq 9, 3) := by decide +kernel
theorem dX6_close_12 : decode cX6_close 12 = .ok (.aload_n 0, 1) := by decide +kernel
theorem dX6_close_13 : decode cX6_close 13 = .ok (.iconst 1, 1) := by decide +kernel
theorem dX6_close_14 : decode cX6_close 14 = .ok (.invokevirtual 143, 3) := by decide +kernel
theorem dX6_close_17 : decode cX6_close 17 = .ok (.ireturn, 1) := by decide +kernel
theorem dX6_close_18 : decode cX6_close 18 = .ok (.aload_n 0, 1) := by decide +kernel
theorem dX6_close_19 : decode cX6_close 19 = .ok (.getfield 44, 3) := by decide +kernel
theorem dX6_close_22 : decode cX6_close 22 = .ok (.invokevirtual 146, 3) := by decide +kernel
theorem dX6_close_25 : decode cX6_close 25 = .ok (.iconst 1, 1) := by decide +kernel
theorem dX6_close_26 : decode cX6_close 26 = .ok (.ireturn, 1) := by decide +kernel
theorem dX6_hear_0 : decode cX6_hear 0 = .ok (.iload_n 2, 1) := by decide +kernel
theorem dX6_hear_1 : decode cX6_hear 1 = .ok (.ifCond .ge 19, 3) := by decide +kernel
theorem dX6_hear_4 : decode cX6_hear 4 = .ok (.aload_n 0, 1) := by decide +kernel
theorem dX6_hear_5 : decode cX6_hear 5 = .ok (.getfield 44, 3) := by decide +kernel
theorem dX6_hear_8 : decode cX6_hear 8 = .ok (.getfield 65, 3) := by decide +kernel
theorem dX6_hear_11 : decode cX6_hear 11 = .ok (.bipush 45, 2) := by decide +kernel
theorem dX6_hear_13 : decode cX6_hear 13 = .ok (.if_icmp .ne 7, 3) := by decide +kernel
theorem dX6_hear_16 : decode cX6_hear 16 = .ok (.iconst 1, 1) := by decide +kernel
theorem dX6_hear_17 : decode cX6_hear 17 = .ok (.goto 4, 3) := by decide +kernel
theorem dX6_hear_20 : decode cX6_hear 20 = .ok (.iconst 0, 1) := by decide +kernel
theorem dX6_hear_21 : decode cX6_hear 21 = .ok (.istore 4, 2) := by decide +kernel
theorem dX6_hear_23 : decode cX6_hear 23 = .ok (.iload 4, 2) := by decide +kernel
theorem dX6_hear_25 : decode cX6_hear 25 = .ok (.ifCond .eq 10, 3) := by decide +kernel
theorem dX6_hear_28 : decode cX6_hear 28 = .ok (.aload_n 0, 1) := by decide +kernel
theorem dX6_hear_29 : decode cX6_hear 29 = .ok (.getfield 44, 3) := by decide +kernel
theorem dX6_hear_32 : decode cX6_hear 32 = .ok (.invokevirtual 146, 3) := by decide +kernel
theorem dX6_hear_35 : decode cX6_hear 35 = .ok (.aload_n 0, 1) := by decide +kernel
theorem dX6_hear_36 : decode cX6_hear 36 = .ok (.getfield 44, 3) := by decide +kernel
theorem dX6_hear_39 : decode cX6_hear 39 = .ok (.getfield 65, 3) := by decide +kernel
theorem dX6_hear_42 : decode cX6_hear 42 = .ok (.iconst 2, 1) := by decide +kernel
theorem dX6_hear_43 : decode cX6_hear 43 = .ok (.if_icmp .eq 9, 3) := by decide +kernel
theorem dX6_hear_46 : decode cX6_hear 46 = .ok (.aload_n 0, 1) := by decide +kernel
theorem dX6_hear_47 : decode cX6_hear 47 = .ok (.iconst 1, 1) := by decide +kernel
theorem dX6_hear_48 : decode cX6_hear 48 = .ok (.invokevirtual 143, 3) := by decide +kernel
theorem dX6_hear_51 : decode cX6_hear 51 = .ok (.ireturn, 1) := by decide +kernel
theorem dX6_hear_52 : decode cX6_hear 52 = .ok (.iload 4, 2) := by decide +kernel
theorem dX6_hear_54 : decode cX6_hear 54 = .ok (.ifCond .eq 14, 3) := by decide +kernel
theorem dX6_hear_57 : decode cX6_hear 57 = .ok (.aload_n 0, 1) := by decide +kernel
theorem dX6_hear_58 : decode cX6_hear 58 = .ok (.getfield 44, 3) := by decide +kernel
theorem dX6_hear_61 : decode cX6_hear 61 = .ok (.getfield 149, 3) := by decide +kernel
theorem dX6_hear_64 : decode cX6_hear 64 = .ok (.ineg, 1) := by decide +kernel
theorem dX6_hear_65 : decode cX6_hear 65 = .ok (.goto 10, 3) := by decide +kernel
theorem dX6_hear_68 : decode cX6_hear 68 = .ok (.aload_n 0, 1) := by decide +kernel
theorem dX6_hear_69 : decode cX6_hear 69 = .ok (.getfield 44, 3) := by decide +kernel
theorem dX6_hear_72 : decode cX6_hear 72 = .ok (.getfield 149, 3) := by decide +kernel
theorem dX6_hear_75 : decode cX6_hear 75 = .ok (.istore 5, 2) := by decide +kernel
theorem dX6_hear_77 : decode cX6_hear 77 = .ok (.iload 5, 2) := by decide +kernel
theorem dX6_hear_79 : decode cX6_hear 79 = .ok (.iload_n 2, 1) := by decide +kernel
theorem dX6_hear_80 : decode cX6_hear 80 = .ok (.if_icmp .lt 9, 3) := by decide +kernel
theorem dX6_hear_83 : decode cX6_hear 83 = .ok (.iload 5, 2) := by decide +kernel
theorem dX6_hear_85 : decode cX6_hear 85 = .ok (.iload_n 3, 1) := by decide +kernel
theorem dX6_hear_86 : decode cX6_hear 86 = .ok (.if_icmp .le 9, 3) := by decide +kernel
theorem dX6_hear_89 : decode cX6_hear 89 = .ok (.aload_n 0, 1) := by decide +kernel
theorem dX6_hear_90 : decode cX6_hear 90 = .ok (.iconst 2, 1) := by decide +kernel
theorem dX6_hear_91 : decode cX6_hear 91 = .ok (.invokevirtual 143, 3) := by decide +kernel
theorem dX6_hear_94 : decode cX6_hear 94 = .ok (.ireturn, 1) := by decide +kernel
theorem dX6_hear_95 : decode cX6_hear 95 = .ok (.iload_n 1, 1) := by decide +kernel
theorem dX6_hear_96 : decode cX6_hear 96 = .ok (.ifCond .lt 20, 3) := by decide +kernel
theorem dX6_hear_99 : decode cX6_hear 99 = .ok (.iload_n 1, 1) := by decide +kernel
theorem dX6_hear_100 : decode cX6_hear 100 = .ok (.aload_n 0, 1) := by decide +kernel
theorem dX6_hear_101 : decode cX6_hear 101 = .ok (.getfield 35, 3) := by decide +kernel
theorem dX6_hear_104 : decode cX6_hear 104 = .ok (.arraylength, 1) := by decide +kernel
theorem dX6_hear_105 : decode cX6_hear 105 = .ok (.if_icmp .ge 11, 3) := by decide +kernel
theorem dX6_hear_108 : decode cX6_hear 108 = .ok (.aload_n 0, 1) := by decide +kernel
theorem dX6_hear_109 : decode cX6_hear 109 = .ok (.getfield 35, 3) := by decide +kernel
theorem dX6_hear_112 : decode cX6_hear 112 = .ok (.iload_n 1, 1) := by decide +kernel
theorem dX6_hear_113 : decode cX6_hear 113 = .ok (.iload 5, 2) := by decide +kernel
theorem dX6_hear_115 : decode cX6_hear 115 = .ok (.iastore, 1) := by decide +kernel
theorem dX6_hear_116 : decode cX6_hear 116 = .ok (.aload_n 0, 1) := by decide +kernel
theorem dX6_hear_117 : decode cX6_hear 117 = .ok (.getfield 44, 3) := by decide +kernel
theorem dX6_hear_120 : decode cX6_hear 120 = .ok (.invokevirtual 146, 3) := by decide +kernel
theorem dX6_hear_123 : decode cX6_hear 123 = .ok (.iconst 1, 1) := by decide +kernel
theorem dX6_hear_124 : decode cX6_hear 124 = .ok (.ireturn, 1) := by decide +kernel
theorem dX6_cityLine_0 : decode cX6_cityLine 0 = .ok (.aload_n 0, 1) := by decide +kernel
theorem dX6_cityLine_1 : decode cX6_cityLine 1 = .ok (.iconst 0, 1) := by decide +kernel
theorem dX6_cityLine_2 : decode cX6_cityLine 2 = .ok (.iconst 0, 1) := by decide +kernel
theorem dX6_cityLine_3 : decode cX6_cityLine 3 = .ok (.sipush 999, 3) := by decide +kernel
theorem dX6_cityLine_6 : decode cX6_cityLine 6 = .ok (.invokevirtual 152, 3) := by decide +kernel
theorem dX6_cityLine_9 : decode cX6_cityLine 9 = .ok (.ifCond .eq 26, 3) := by decide +kernel
theorem dX6_cityLine_12 : decode cX6_cityLine 12 = .ok (.aload_n 0, 1) := by decide +kernel
theorem dX6_cityLine_13 : decode cX6_cityLine 13 = .ok (.iconst 1, 1) := by decide +kernel
theorem dX6_cityLine_14 : decode cX6_cityLine 14 = .ok (.iconst 0, 1) := by decide +kernel
theorem dX6_cityLine_15 : decode cX6_cityLine 15 = .ok (.bipush 99, 2) := by decide +kernel
theorem dX6_cityLine_17 : decode cX6_cityLine 17 = .ok (.invokevirtual 152, 3) := by decide +kernel
theorem dX6_cityLine_20 : decode cX6_cityLine 20 = .ok (.ifCond .eq 15, 3) := by decide +kernel
theorem dX6_cityLine_23 : decode cX6_cityLine 23 = .ok (.aload_n 0, 1) := by decide +kernel
theorem dX6_cityLine_24 : decode cX6_cityLine 24 = .ok (.iconst 2, 1) := by decide +kernel
theorem dX6_cityLine_25 : decode cX6_cityLine 25 = .ok (.iconst 0, 1) := by decide +kernel
theorem dX6_cityLine_26 : decode cX6_cityLine 26 = .ok (.sipush 999, 3) := by decide +kernel
theorem dX6_cityLine_29 : decode cX6_cityLine 29 = .ok (.invokevirtual 152, 3) := by decide +kernel
theorem dX6_cityLine_32 : decode cX6_cityLine 32 = .ok (.ifCond .ne 5, 3) := by decide +kernel
theorem dX6_cityLine_35 : decode cX6_cityLine 35 = .ok (.iconst 0, 1) := by decide +kernel
theorem dX6_cityLine_36 : decode cX6_cityLine 36 = .ok (.ireturn, 1) := by decide +kernel
theorem dX6_cityLine_37 : decode cX6_cityLine 37 = .ok (.aload_n 0, 1) := by decide +kernel
theorem dX6_cityLine_38 : decode cX6_cityLine 38 = .ok (.getfield 21, 3) := by decide +kernel
theorem dX6_cityLine_41 : decode cX6_cityLine 41 = .ok (.aload_n 0, 1) := by decide +kernel
theorem dX6_cityLine_42 : decode cX6_cityLine 42 = .ok (.getfield 35, 3) := by decide +kernel
theorem dX6_cityLine_45 : decode cX6_cityLine 45 = .ok (.iconst 0, 1) := by decide +kernel
theorem dX6_cityLine_46 : decode cX6_cityLine 46 = .ok (.iaload, 1) := by decide +kernel
theorem dX6_cityLine_47 : decode cX6_cityLine 47 = .ok (.putfield 156, 3) := by decide +kernel
theorem dX6_cityLine_50 : decode cX6_cityLine 50 = .ok (.aload_n 0, 1) := by decide +kernel
theorem dX6_cityLine_51 : decode cX6_cityLine 51 = .ok (.getfield 21, 3) := by decide +kernel
theorem dX6_cityLine_54 : decode cX6_cityLine 54 = .ok (.aload_n 0, 1) := by decide +kernel
theorem dX6_cityLine_55 : decode cX6_cityLine 55 = .ok (.getfield 35, 3) := by decide +kernel
theorem dX6_cityLine_58 : decode cX6_cityLine 58 = .ok (.iconst 1, 1) := by decide +kernel
theorem dX6_cityLine_59 : decode cX6_cityLine 59 = .ok (.iaload, 1) := by decide +kernel
theorem dX6_cityLine_60 : decode cX6_cityLine 60 = .ok (.putfield 159, 3) := by decide +kernel
theorem dX6_cityLine_63 : decode cX6_cityLine 63 = .ok (.aload_n 0, 1) := by decide +kernel
theorem dX6_cityLine_64 : decode cX6_cityLine 64 = .ok (.getfield 21, 3) := by decide +kernel
theorem dX6_cityLine_67 : decode cX6_cityLine 67 = .ok (.aload_n 0, 1) := by decide +kernel
theorem dX6_cityLine_68 : decode cX6_cityLine 68 = .ok (.getfield 35, 3) := by decide +kernel
theorem dX6_cityLine_71 : decode cX6_cityLine 71 = .ok (.iconst 2, 1) := by decide +kernel
theorem dX6_cityLine_72 : decode cX6_cityLine 72 = .ok (.iaload, 1) := by decide +kernel
theorem dX6_cityLine_73 : decode cX6_cityLine 73 = .ok (.putfield 162, 3) := by decide +kernel
theorem dX6_cityLine_76 : decode cX6_cityLine 76 = .ok (.aload_n 0, 1) := by decide +kernel
theorem dX6_cityLine_77 : decode cX6_cityLine 77 = .ok (.invokevirtual 165, 3) := by decide +kernel
theorem dX6_cityLine_80 : decode cX6_cityLine 80 = .ok (.ireturn, 1) := by decide +kernel
theorem dX6_deedLine_0 : decode cX6_deedLine 0 = .ok (.aload_n 0, 1) := by decide +kernel
theorem dX6_deedLine_1 : decode cX6_deedLine 1 = .ok (.iconst 0, 1) := by decide +kernel
theorem dX6_deedLine_2 : decode cX6_deedLine 2 = .ok (.iconst 0, 1) := by decide +kernel
theorem dX6_deedLine_3 : decode cX6_deedLine 3 = .ok (.bipush 99, 2) := by decide +kernel
theorem dX6_deedLine_5 : decode cX6_deedLine 5 = .ok (.invokevirtual 152, 3) := by decide +kernel
theorem dX6_deedLine_8 : decode cX6_deedLine 8 = .ok (.ifCond .eq 39, 3) := by decide +kernel
theorem dX6_deedLine_11 : decode cX6_deedLine 11 = .ok (.aload_n 0, 1) := by decide +kernel
theorem dX6_deedLine_12 : decode cX6_deedLine 12 = .ok (.iconst 1, 1) := by decide +kernel
theorem dX6_deedLine_13 : decode cX6_deedLine 13 = .ok (.bipush (-20), 2) := by decide +kernel
theorem dX6_deedLine_15 : decode cX6_deedLine 15 = .ok (.bipush 20, 2) := by decide +kernel
theorem dX6_deedLine_17 : decode cX6_deedLine 17 = .ok (.invokevirtual 152, 3) := by decide +kernel
theorem dX6_deedLine_20 : decode cX6_deedLine 20 = .ok (.ifCond .eq 27, 3) := by decide +kernel
theorem dX6_deedLine_23 : decode cX6_deedLine 23 = .ok (.aload_n 0, 1) := by decide +kernel
theorem dX6_deedLine_24 : decode cX6_deedLine 24 = .ok (.iconst 2, 1) := by decide +kernel
theorem dX6_deedLine_25 : decode cX6_deedLine 25 = .ok (.bipush (-99), 2) := by decide +kernel
theorem dX6_deedLine_27 : decode cX6_deedLine 27 = .ok (.bipush 99, 2) := by decide +kernel
theorem dX6_deedLine_29 : decode cX6_deedLine 29 = .ok (.invokevirtual 152, 3) := by decide +kernel
theorem dX6_deedLine_32 : decode cX6_deedLine 32 = .ok (.ifCond .eq 15, 3) := by decide +kernel
theorem dX6_deedLine_35 : decode cX6_deedLine 35 = .ok (.aload_n 0, 1) := by decide +kernel
theorem dX6_deedLine_36 : decode cX6_deedLine 36 = .ok (.iconst 3, 1) := by decide +kernel
theorem dX6_deedLine_37 : decode cX6_deedLine 37 = .ok (.bipush (-20), 2) := by decide +kernel
theorem dX6_deedLine_39 : decode cX6_deedLine 39 = .ok (.bipush 20, 2) := by decide +kernel
theorem dX6_deedLine_41 : decode cX6_deedLine 41 = .ok (.invokevirtual 152, 3) := by decide +kernel
theorem dX6_deedLine_44 : decode cX6_deedLine 44 = .ok (.ifCond .ne 5, 3) := by decide +kernel
theorem dX6_deedLine_47 : decode cX6_deedLine 47 = .ok (.iconst 0, 1) := by decide +kernel
theorem dX6_deedLine_48 : decode cX6_deedLine 48 = .ok (.ireturn, 1) := by decide +kernel
theorem dX6_deedLine_49 : decode cX6_deedLine 49 = .ok (.aload_n 0, 1) := by decide +kernel
theorem dX6_deedLine_50 : decode cX6_deedLine 50 = .ok (.getfield 12, 3) := by decide +kernel
theorem dX6_deedLine_53 : decode cX6_deedLine 53 = .ok (.getfield 95, 3) := by decide +kernel
theorem dX6_deedLine_56 : decode cX6_deedLine 56 = .ok (.bipush 7, 2) := by decide +kernel
theorem dX6_deedLine_58 : decode cX6_deedLine 58 = .ok (.if_icmp .ge 100, 3) := by decide +kernel
theorem dX6_deedLine_61 : decode cX6_deedLine 61 = .ok (.aload_n 0, 1) := by decide +kernel
theorem dX6_deedLine_62 : decode cX6_deedLine 62 = .ok (.getfield 12, 3) := by decide +kernel
theorem dX6_deedLine_65 : decode cX6_deedLine 65 = .ok (.getfield 168, 3) := by decide +kernel
theorem dX6_deedLine_68 : decode cX6_deedLine 68 = .ok (.aload_n 0, 1) := by decide +kernel
theorem dX6_deedLine_69 : decode cX6_deedLine 69 = .ok (.getfield 12, 3) := by decide +kernel
theorem dX6_deedLine_72 : decode cX6_deedLine 72 = .ok (.getfield 95, 3) := by decide +kernel
theorem dX6_deedLine_75 : decode cX6_deedLine 75 = .ok (.aload_n 0, 1) := by decide +kernel
theorem dX6_deedLine_76 : decode cX6_deedLine 76 = .ok (.getfield 35, 3) := by decide +kernel
theorem dX6_deedLine_79 : decode cX6_deedLine 79 = .ok (.iconst 0, 1) := by decide +kernel
theorem dX6_deedLine_80 : decode cX6_deedLine 80 = .ok (.iaload, 1) := by decide +kernel
theorem dX6_deedLine_81 : decode cX6_deedLine 81 = .ok (.iastore, 1) := by decide +kernel
theorem dX6_deedLine_82 : decode cX6_deedLine 82 = .ok (.aload_n 0, 1) := by decide +kernel
theorem dX6_deedLine_83 : decode cX6_deedLine 83 = .ok (.getfield 12, 3) := by decide +kernel
theorem dX6_deedLine_86 : decode cX6_deedLine 86 = .ok (.getfield 171, 3) := by decide +kernel
theorem dX6_deedLine_89 : decode cX6_deedLine 89 = .ok (.aload_n 0, 1) := by decide +kernel
theorem dX6_deedLine_90 : decode cX6_deedLine 90 = .ok (.getfield 12, 3) := by decide +kernel
theorem dX6_deedLine_93 : decode cX6_deedLine 93 = .ok (.getfield 95, 3) := by decide +kernel
theorem dX6_deedLine_96 : decode cX6_deedLine 96 = .ok (.aload_n 0, 1) := by decide +kernel
theorem dX6_deedLine_97 : decode cX6_deedLine 97 = .ok (.getfield 35, 3) := by decide +kernel
theorem dX6_deedLine_100 : decode cX6_deedLine 100 = .ok (.iconst 1, 1) := by decide +kernel
theorem dX6_deedLine_101 : decode cX6_deedLine 101 = .ok (.iaload, 1) := by decide +kernel
theorem dX6_deedLine_102 : decode cX6_deedLine 102 = .ok (.iastore, 1) := by decide +kernel
theorem dX6_deedLine_103 : decode cX6_deedLine 103 = .ok (.aload_n 0, 1) := by decide +kernel
theorem dX6_deedLine_104 : decode cX6_deedLine 104 = .ok (.getfield 12, 3) := by decide +kernel
theorem dX6_deedLine_107 : decode cX6_deedLine 107 = .ok (.getfield 174, 3) := by decide +kernel
theorem dX6_deedLine_110 : decode cX6_deedLine 110 = .ok (.aload_n 0, 1) := by decide +kernel
theorem dX6_deedLine_111 : decode cX6_deedLine 111 = .ok (.getfield 12, 3) := by decide +kernel
theorem dX6_deedLine_114 : decode cX6_deedLine 114 = .ok (.getfield 95, 3) := by decide +kernel
theorem dX6_deedLine_117 : decode cX6_deedLine 117 = .ok (.aload_n 0, 1) := by decide +kernel
theorem dX6_deedLine_118 : decode cX6_deedLine 118 = .ok (.getfield 35, 3) := by decide +kernel
theorem dX6_deedLine_121 : decode cX6_deedLine 121 = .ok (.iconst 2, 1) := by decide +kernel
theorem dX6_deedLine_122 : decode cX6_deedLine 122 = .ok (.iaload, 1) := by decide +kernel
theorem dX6_deedLine_123 : decode cX6_deedLine 123 = .ok (.iastore, 1) := by decide +kernel
theorem dX6_deedLine_124 : decode cX6_deedLine 124 = .ok (.aload_n 0, 1) := by decide +kernel
theorem dX6_deedLine_125 : decode cX6_deedLine 125 = .ok (.getfield 12, 3) := by decide +kernel
theorem dX6_deedLine_128 : decode cX6_deedLine 128 = .ok (.getfield 177, 3) := by decide +kernel
theorem dX6_deedLine_131 : decode cX6_deedLine 131 = .ok (.aload_n 0, 1) := by decide +kernel
theorem dX6_deedLine_132 : decode cX6_deedLine 132 = .ok (.getfield 12, 3) := by decide +kernel
theorem dX6_deedLine_135 : decode cX6_deedLine 135 = .ok (.getfield 95, 3) := by decide +kernel
theorem dX6_deedLine_138 : decode cX6_deedLine 138 = .ok (.aload_n 0, 1) := by decide +kernel
theorem dX6_deedLine_139 : decode cX6_deedLine 139 = .ok (.getfield 35, 3) := by decide +kernel
theorem dX6_deedLine_142 : decode cX6_deedLine 142 = .ok (.iconst 3, 1) := by decide +kernel
theorem dX6_deedLine_143 : decode cX6_deedLine 143 = .ok (.iaload, 1) := by decide +kernel
theorem dX6_deedLine_144 : decode cX6_deedLine 144 = .ok (.iastore, 1) := by decide +kernel
theorem dX6_deedLine_145 : decode cX6_deedLine 145 = .ok (.aload_n 0, 1) := by decide +kernel
theorem dX6_deedLine_146 : decode cX6_deedLine 146 = .ok (.getfield 12, 3) := by decide +kernel
theorem dX6_deedLine_149 : decode cX6_deedLine 149 = .ok (.dup, 1) := by decide +kernel
theorem dX6_deedLine_150 : decode cX6_deedLine 150 = .ok (.getfield 95, 3) := by decide +kernel
theorem dX6_deedLine_153 : decode cX6_deedLine 153 = .ok (.iconst 1, 1) := by decide +kernel
theorem dX6_deedLine_154 : decode cX6_deedLine 154 = .ok (.iadd, 1) := by decide +kernel
theorem dX6_deedLine_155 : decode cX6_deedLine 155 = .ok (.putfield 95, 3) := by decide +kernel
theorem dX6_deedLine_158 : decode cX6_deedLine 158 = .ok (.aload_n 0, 1) := by decide +kernel
theorem dX6_deedLine_159 : decode cX6_deedLine 159 = .ok (.invokevirtual 165, 3) := by decide +kernel
theorem dX6_deedLine_162 : decode cX6_deedLine 162 = .ok (.ireturn, 1) := by decide +kernel
theorem dX6_wayLine_0 : decode cX6_wayLine 0 = .ok (.iconst 0, 1) := by decide +kernel
theorem dX6_wayLine_1 : decode cX6_wayLine 1 = .ok (.istore_n 2, 1) := by decide +kernel
theorem dX6_wayLine_2 : decode cX6_wayLine 2 = .ok (.iconst 0, 1) := by decide +kernel
theorem dX6_wayLine_3 : decode cX6_wayLine 3 = .ok (.istore_n 3, 1) := by decide +kernel
theorem dX6_wayLine_4 : decode cX6_wayLine 4 = .ok (.iload_n 3, 1) := by decide +kernel
theorem dX6_wayLine_5 : decode cX6_wayLine 5 = .ok (.bipush 6, 2) := by decide +kernel
theorem dX6_wayLine_7 : decode cX6_wayLine 7 = .ok (.if_icmp .gt 121, 3) := by decide +kernel
theorem dX6_wayLine_10 : decode cX6_wayLine 10 = .ok (.iload_n 3, 1) := by decide +kernel
theorem dX6_wayLine_11 : decode cX6_wayLine 11 = .ok (.ifCond .eq 15, 3) := by decide +kernel
theorem dX6_wayLine_14 : decode cX6_wayLine 14 = .ok (.aload_n 0, 1) := by decide +kernel
theorem dX6_wayLine_15 : decode cX6_wayLine 15 = .ok (.getfield 44, 3) := by decide +kernel
theorem dX6_wayLine_18 : decode cX6_wayLine 18 = .ok (.getfield 65, 3) := by decide +kernel
theorem dX6_wayLine_21 : decode cX6_wayLine 21 = .ok (.bipush 59, 2) := by decide +kernel
theorem dX6_wayLine_23 : decode cX6_wayLine 23 = .ok (.if_icmp .eq 105, 3) := by decide +kernel
theorem dX6_wayLine_26 : decode cX6_wayLine 26 = .ok (.aload_n 0, 1) := by decide +kernel
theorem dX6_wayLine_27 : decode cX6_wayLine 27 = .ok (.getfield 44, 3) := by decide +kernel
theorem dX6_wayLine_30 : decode cX6_wayLine 30 = .ok (.getfield 65, 3) := by decide +kernel
theorem dX6_wayLine_33 : decode cX6_wayLine 33 = .ok (.iconst 2, 1) := by decide +kernel
theorem dX6_wayLine_34 : decode cX6_wayLine 34 = .ok (.if_icmp .eq 9, 3) := by decide +kernel
theorem dX6_wayLine_37 : decode cX6_wayLine 37 = .ok (.aload_n 0, 1) := by decide +kernel
theorem dX6_wayLine_38 : decode cX6_wayLine 38 = .ok (.iconst 1, 1) := by decide +kernel
theorem dX6_wayLine_39 : decode cX6_wayLine 39 = .ok (.invokevirtual 143, 3) := by decide +kernel
theorem dX6_wayLine_42 : decode cX6_wayLine 42 = .ok (.ireturn, 1) := by decide +kernel
theorem dX6_wayLine_43 : decode cX6_wayLine 43 = .ok (.iload_n 3, 1) := by decide +kernel
theorem dX6_wayLine_44 : decode cX6_wayLine 44 = .ok (.bipush 6, 2) := by decide +kernel
theorem dX6_wayLine_46 : decode cX6_wayLine 46 = .ok (.if_icmp .eq 16, 3) := by decide +kernel
theorem dX6_wayLine_49 : decode cX6_wayLine 49 = .ok (.aload_n 0, 1) := by decide +kernel
theorem dX6_wayLine_50 : decode cX6_wayLine 50 = .ok (.getfield 44, 3) := by decide +kernel
theorem dX6_wayLine_53 : decode cX6_wayLine 53 = .ok (.getfield 149, 3) := by decide +kernel
theorem dX6_wayLine_56 : decode cX6_wayLine 56 = .ok (.sipush 10000, 3) := by decide +kernel
theorem dX6_wayLine_59 : decode cX6_wayLine 59 = .ok (.if_icmp .ne 9, 3) := by decide +kernel
theorem dX6_wayLine_62 : decode cX6_wayLine 62 = .ok (.aload_n 0, 1) := by decide +kernel
theorem dX6_wayLine_63 : decode cX6_wayLine 63 = .ok (.iconst 2, 1) := by decide +kernel
theorem dX6_wayLine_64 : decode cX6_wayLine 64 = .ok (.invokevirtual 143, 3) := by decide +kernel
theorem dX6_wayLine_67 : decode cX6_wayLine 67 = .ok (.ireturn, 1) := by decide +kernel
theorem dX6_wayLine_68 : decode cX6_wayLine 68 = .ok (.aload_n 0, 1) := by decide +kernel
theorem dX6_wayLine_69 : decode cX6_wayLine 69 = .ok (.getfield 44, 3) := by decide +kernel
theorem dX6_wayLine_72 : decode cX6_wayLine 72 = .ok (.getfield 149, 3) := by decide +kernel
theorem dX6_wayLine_75 : decode cX6_wayLine 75 = .ok (.aload_n 0, 1) := by decide +kernel
theorem dX6_wayLine_76 : decode cX6_wayLine 76 = .ok (.getfield 12, 3) := by decide +kernel
theorem dX6_wayLine_79 : decode cX6_wayLine 79 = .ok (.getfield 95, 3) := by decide +kernel
theorem dX6_wayLine_82 : decode cX6_wayLine 82 = .ok (.if_icmp .lt 9, 3) := by decide +kernel
theorem dX6_wayLine_85 : decode cX6_wayLine 85 = .ok (.aload_n 0, 1) := by decide +kernel
theorem dX6_wayLine_86 : decode cX6_wayLine 86 = .ok (.iconst 3, 1) := by decide +kernel
theorem dX6_wayLine_87 : decode cX6_wayLine 87 = .ok (.invokevirtual 143, 3) := by decide +kernel
theorem dX6_wayLine_90 : decode cX6_wayLine 90 = .ok (.ireturn, 1) := by decide +kernel
theorem dX6_wayLine_91 : decode cX6_wayLine 91 = .ok (.aload_n 0, 1) := by decide +kernel
theorem dX6_wayLine_92 : decode cX6_wayLine 92 = .ok (.getfield 21, 3) := by decide +kernel
theorem dX6_wayLine_95 : decode cX6_wayLine 95 = .ok (.getfield 180, 3) := by decide +kernel
theorem dX6_wayLine_98 : decode cX6_wayLine 98 = .ok (.iload_n 1, 1) := by decide +kernel
theorem dX6_wayLine_99 : decode cX6_wayLine 99 = .ok (.bipush 6, 2) := by decide +kernel
theorem dX6_wayLine_101 : decode cX6_wayLine 101 = .ok (.imul, 1) := by decide +kernel
theorem dX6_wayLine_102 : decode cX6_wayLine 102 = .ok (.iload_n 3, 1) := by decide +kernel
theorem dX6_wayLine_103 : decode cX6_wayLine 103 = .ok (.iadd, 1) := by decide +kernel
theorem dX6_wayLine_104 : decode cX6_wayLine 104 = .ok (.aload_n 0, 1) := by decide +kernel
theorem dX6_wayLine_105 : decode cX6_wayLine 105 = .ok (.getfield 44, 3) := by decide +kernel
theorem dX6_wayLine_108 : decode cX6_wayLine 108 = .ok (.getfield 149, 3) := by decide +kernel
theorem dX6_wayLine_111 : decode cX6_wayLine 111 = .ok (.iastore, 1) := by decide +kernel
theorem dX6_wayLine_112 : decode cX6_wayLine 112 = .ok (.iinc 2 1, 3) := by decide +kernel
theorem dX6_wayLine_115 : decode cX6_wayLine 115 = .ok (.aload_n 0, 1) := by decide +kernel
theorem dX6_wayLine_116 : decode cX6_wayLine 116 = .ok (.getfield 44, 3) := by decide +kernel
theorem dX6_wayLine_119 : decode cX6_wayLine 119 = .ok (.invokevirtual 146, 3) := by decide +kernel
theorem dX6_wayLine_122 : decode cX6_wayLine 122 = .ok (.iinc 3 1, 3) := by decide +kernel
theorem dX6_wayLine_125 : decode cX6_wayLine 125 = .ok (.goto (-121), 3) := by decide +kernel
theorem dX6_wayLine_128 : decode cX6_wayLine 128 = .ok (.aload_n 0, 1) := by decide +kernel
theorem dX6_wayLine_129 : decode cX6_wayLine 129 = .ok (.getfield 12, 3) := by decide +kernel
theorem dX6_wayLine_132 : decode cX6_wayLine 132 = .ok (.getfield 183, 3) := by decide +kernel
theorem dX6_wayLine_135 : decode cX6_wayLine 135 = .ok (.iload_n 1, 1) := by decide +kernel
theorem dX6_wayLine_136 : decode cX6_wayLine 136 = .ok (.iload_n 2, 1) := by decide +kernel
theorem dX6_wayLine_137 : decode cX6_wayLine 137 = .ok (.iastore, 1) := by decide +kernel
theorem dX6_wayLine_138 : decode cX6_wayLine 138 = .ok (.aload_n 0, 1) := by decide +kernel
theorem dX6_wayLine_139 : decode cX6_wayLine 139 = .ok (.invokevirtual 165, 3) := by decide +kernel
theorem dX6_wayLine_142 : decode cX6_wayLine 142 = .ok (.ireturn, 1) := by decide +kernel
theorem dX6_harvestsLine_0 : decode cX6_harvestsLine 0 = .ok (.iconst 0, 1) := by decide +kernel
theorem dX6_harvestsLine_1 : decode cX6_harvestsLine 1 = .ok (.istore_n 1, 1) := by decide +kernel
theorem dX6_harvestsLine_2 : decode cX6_harvestsLine 2 = .ok (.iload_n 1, 1) := by decide +kernel
theorem dX6_harvestsLine_3 : decode cX6_harvestsLine 3 = .ok (.bipush 10, 2) := by decide +kernel
theorem dX6_harvestsLine_5 : decode cX6_harvestsLine 5 = .ok (.if_icmp .gt 92, 3) := by decide +kernel
theorem dX6_harvestsLine_8 : decode cX6_harvestsLine 8 = .ok (.iload_n 1, 1) := by decide +kernel
theorem dX6_harvestsLine_9 : decode cX6_harvestsLine 9 = .ok (.ifCond .eq 15, 3) := by decide +kernel
theorem dX6_harvestsLine_12 : decode cX6_harvestsLine 12 = .ok (.aload_n 0, 1) := by decide +kernel
theorem dX6_harvestsLine_13 : decode cX6_harvestsLine 13 = .ok (.getfield 44, 3) := by decide +kernel
theorem dX6_harvestsLine_16 : decode cX6_harvestsLine 16 = .ok (.getfield 65, 3) := by decide +kernel
theorem dX6_harvestsLine_19 : decode cX6_harvestsLine 19 = .ok (.bipush 59, 2) := by decide +kernel
theorem dX6_harvestsLine_21 : decode cX6_harvestsLine 21 = .ok (.if_icmp .eq 76, 3) := by decide +kernel
theorem dX6_harvestsLine_24 : decode cX6_harvestsLine 24 = .ok (.iload_n 1, 1) := by decide +kernel
theorem dX6_harvestsLine_25 : decode cX6_harvestsLine 25 = .ok (.bipush 10, 2) := by decide +kernel
theorem dX6_harvestsLine_27 : decode cX6_harvestsLine 27 = .ok (.if_icmp .ne 20, 3) := by decide +kernel
theorem dX6_harvestsLine_30 : decode cX6_harvestsLine 30 = .ok (.aload_n 0, 1) := by decide +kernel
theorem dX6_harvestsLine_31 : decode cX6_harvestsLine 31 = .ok (.getfield 44, 3) := by decide +kernel
theorem dX6_harvestsLine_34 : decode cX6_harvestsLine 34 = .ok (.getfield 65, 3) := by decide +kernel
theorem dX6_harvestsLine_37 : decode cX6_harvestsLine 37 = .ok (.iconst 2, 1) := by decide +kernel
theorem dX6_harvestsLine_38 : decode cX6_harvestsLine 38 = .ok (.if_icmp .ne 9, 3) := by decide +kernel
theorem dX6_harvestsLine_41 : decode cX6_harvestsLine 41 = .ok (.aload_n 0, 1) := by decide +kernel
theorem dX6_harvestsLine_42 : decode cX6_harvestsLine 42 = .ok (.iconst 2, 1) := by decide +kernel
theorem dX6_harvestsLine_43 : decode cX6_harvestsLine 43 = .ok (.invokevirtual 143, 3) := by decide +kernel
theorem dX6_harvestsLine_46 : decode cX6_harvestsLine 46 = .ok (.ireturn, 1) := by decide +kernel
theorem dX6_harvestsLine_47 : decode cX6_harvestsLine 47 = .ok (.aload_n 0, 1) := by decide +kernel
theorem dX6_harvestsLine_48 : decode cX6_harvestsLine 48 = .ok (.iconst 0, 1) := by decide +kernel
theorem dX6_harvestsLine_49 : decode cX6_harvestsLine 49 = .ok (.iconst 0, 1) := by decide +kernel
theorem dX6_harvestsLine_50 : decode cX6_harvestsLine 50 = .ok (.bipush 99, 2) := by decide +kernel
theorem dX6_harvestsLine_52 : decode cX6_harvestsLine 52 = .ok (.invokevirtual 152, 3) := by decide +kernel
theorem dX6_harvestsLine_55 : decode cX6_harvestsLine 55 = .ok (.ifCond .ne 5, 3) := by decide +kernel
theorem dX6_harvestsLine_58 : decode cX6_harvestsLine 58 = .ok (.iconst 0, 1) := by decide +kernel
theorem dX6_harvestsLine_59 : decode cX6_harvestsLine 59 = .ok (.ireturn, 1) := by decide +kernel
theorem dX6_harvestsLine_60 : decode cX6_harvestsLine 60 = .ok (.iload_n 1, 1) := by decide +kernel
theorem dX6_harvestsLine_61 : decode cX6_harvestsLine 61 = .ok (.bipush 10, 2) := by decide +kernel
theorem dX6_harvestsLine_63 : decode cX6_harvestsLine 63 = .ok (.if_icmp .ge 28, 3) := by decide +kernel
theorem dX6_harvestsLine_66 : decode cX6_harvestsLine 66 = .ok (.aload_n 0, 1) := by decide +kernel
theorem dX6_harvestsLine_67 : decode cX6_harvestsLine 67 = .ok (.getfield 12, 3) := by decide +kernel
theorem dX6_harvestsLine_70 : decode cX6_harvestsLine 70 = .ok (.getfield 186, 3) := by decide +kernel
theorem dX6_harvestsLine_73 : decode cX6_harvestsLine 73 = .ok (.iload_n 1, 1) := by decide +kernel
theorem dX6_harvestsLine_74 : decode cX6_harvestsLine 74 = .ok (.aload_n 0, 1) := by decide +kernel
theorem dX6_harvestsLine_75 : decode cX6_harvestsLine 75 = .ok (.getfield 35, 3) := by decide +kernel
theorem dX6_harvestsLine_78 : decode cX6_harvestsLine 78 = .ok (.iconst 0, 1) := by decide +kernel
theorem dX6_harvestsLine_79 : decode cX6_harvestsLine 79 = .ok (.iaload, 1) := by decide +kernel
theorem dX6_harvestsLine_80 : decode cX6_harvestsLine 80 = .ok (.iastore, 1) := by decide +kernel
theorem dX6_harvestsLine_81 : decode cX6_harvestsLine 81 = .ok (.aload_n 0, 1) := by decide +kernel
theorem dX6_harvestsLine_82 : decode cX6_harvestsLine 82 = .ok (.getfield 12, 3) := by decide +kernel
theorem dX6_harvestsLine_85 : decode cX6_harvestsLine 85 = .ok (.iload_n 1, 1) := by decide +kernel
theorem dX6_harvestsLine_86 : decode cX6_harvestsLine 86 = .ok (.iconst 1, 1) := by decide +kernel
theorem dX6_harvestsLine_87 : decode cX6_harvestsLine 87 = .ok (.iadd, 1) := by decide +kernel
theorem dX6_harvestsLine_88 : decode cX6_harvestsLine 88 = .ok (.putfield 189, 3) := by decide +kernel
theorem dX6_harvestsLine_91 : decode cX6_harvestsLine 91 = .ok (.iinc 1 1, 3) := by decide +kernel
theorem dX6_harvestsLine_94 : decode cX6_harvestsLine 94 = .ok (.goto (-92), 3) := by decide +kernel
theorem dX6_harvestsLine_97 : decode cX6_harvestsLine 97 = .ok (.aload_n 0, 1) := by decide +kernel
theorem dX6_harvestsLine_98 : decode cX6_harvestsLine 98 = .ok (.invokevirtual 165, 3) := by decide +kernel
theorem dX6_harvestsLine_101 : decode cX6_harvestsLine 101 = .ok (.ireturn, 1) := by decide +kernel
theorem dX6_termLine_0 : decode cX6_termLine 0 = .ok (.aload_n 0, 1) := by decide +kernel
theorem dX6_termLine_1 : decode cX6_termLine 1 = .ok (.iconst 0, 1) := by decide +kernel
theorem dX6_termLine_2 : decode cX6_termLine 2 = .ok (.iconst 1, 1) := by decide +kernel
theorem dX6_termLine_3 : decode cX6_termLine 3 = .ok (.iconst 5, 1) := by decide +kernel
theorem dX6_termLine_4 : decode cX6_termLine 4 = .ok (.invokevirtual 152, 3) := by decide +kernel
theorem dX6_termLine_7 : decode cX6_termLine 7 = .ok (.ifCond .ne 5, 3) := by decide +kernel
theorem dX6_termLine_10 : decode cX6_termLine 10 = .ok (.iconst 0, 1) := by decide +kernel
theorem dX6_termLine_11 : decode cX6_termLine 11 = .ok (.ireturn, 1) := by decide +kernel
theorem dX6_termLine_12 : decode cX6_termLine 12 = .ok (.aload_n 0, 1) := by decide +kernel
theorem dX6_termLine_13 : decode cX6_termLine 13 = .ok (.getfield 21, 3) := by decide +kernel
theorem dX6_termLine_16 : decode cX6_termLine 16 = .ok (.aload_n 0, 1) := by decide +kernel
theorem dX6_termLine_17 : decode cX6_termLine 17 = .ok (.getfield 35, 3) := by decide +kernel
theorem dX6_termLine_20 : decode cX6_termLine 20 = .ok (.iconst 0, 1) := by decide +kernel
theorem dX6_termLine_21 : decode cX6_termLine 21 = .ok (.iaload, 1) := by decide +kernel
theorem dX6_termLine_22 : decode cX6_termLine 22 = .ok (.putfield 192, 3) := by decide +kernel
theorem dX6_termLine_25 : decode cX6_termLine 25 = .ok (.aload_n 0, 1) := by decide +kernel
theorem dX6_termLine_26 : decode cX6_termLine 26 = .ok (.invokevirtual 165, 3) := by decide +kernel
theorem dX6_termLine_29 : decode cX6_termLine 29 = .ok (.ireturn, 1) := by decide +kernel
theorem dX6_friendLine_0 : decode cX6_friendLine 0 = .ok (.aload_n 0, 1) := by decide +kernel
theorem dX6_friendLine_1 : decode cX6_friendLine 1 = .ok (.iconst 0, 1) := by decide +kernel
theorem dX6_friendLine_2 : decode cX6_friendLine 2 = .ok (.bipush (-9), 2) := by decide +kernel
theorem dX6_friendLine_4 : decode cX6_friendLine 4 = .ok (.bipush 9, 2) := by decide +kernel
theorem dX6_friendLine_6 : decode cX6_friendLine 6 = .ok (.invokevirtual 152, 3) := by decide +kernel
theorem dX6_friendLine_9 : decode cX6_friendLine 9 = .ok (.ifCond .eq 14, 3) := by decide +kernel
theorem dX6_friendLine_12 : decode cX6_friendLine 12 = .ok (.aload_n 0, 1) := by decide +kernel
theorem dX6_friendLine_13 : decode cX6_friendLine 13 = .ok (.iconst 1, 1) := by decide +kernel
theorem dX6_friendLine_14 : decode cX6_friendLine 14 = .ok (.iconst 0, 1) := by decide +kernel
theorem dX6_friendLine_15 : decode cX6_friendLine 15 = .ok (.bipush 9, 2) := by decide +kernel
theorem dX6_friendLine_17 : decode cX6_friendLine 17 = .ok (.invokevirtual 152, 3) := by decide +kernel
theorem dX6_friendLine_20 : decode cX6_friendLine 20 = .ok (.ifCond .ne 5, 3) := by decide +kernel
theorem dX6_friendLine_23 : decode cX6_friendLine 23 = .ok (.iconst 0, 1) := by decide +kernel
theorem dX6_friendLine_24 : decode cX6_friendLine 24 = .ok (.ireturn, 1) := by decide +kernel
theorem dX6_friendLine_25 : decode cX6_friendLine 25 = .ok (.aload_n 0, 1) := by decide +kernel
theorem dX6_friendLine_26 : decode cX6_friendLine 26 = .ok (.getfield 12, 3) := by decide +kernel
theorem dX6_friendLine_29 : decode cX6_friendLine 29 = .ok (.getfield 114, 3) := by decide +kernel
theorem dX6_friendLine_32 : decode cX6_friendLine 32 = .ok (.bipush 6, 2) := by decide +kernel
theorem dX6_friendLine_34 : decode cX6_friendLine 34 = .ok (.if_icmp .ge 58, 3) := by decide +kernel
theorem dX6_friendLine_37 : decode cX6_friendLine 37 = .ok (.aload_n 0, 1) := by decide +kernel
theorem dX6_friendLine_38 : decode cX6_friendLine 38 = .ok (.getfield 21, 3) := by decide +kernel
theorem dX6_friendLine_41 : decode cX6_friendLine 41 = .ok (.getfield 195, 3) := by decide +kernel
theorem dX6_friendLine_44 : decode cX6_friendLine 44 = .ok (.aload_n 0, 1) := by decide +kernel
theorem dX6_friendLine_45 : decode cX6_friendLine 45 = .ok (.getfield 12, 3) := by decide +kernel
theorem dX6_friendLine_48 : decode cX6_friendLine 48 = .ok (.getfield 114, 3) := by decide +kernel
theorem dX6_friendLine_51 : decode cX6_friendLine 51 = .ok (.aload_n 0, 1) := by decide +kernel
theorem dX6_friendLine_52 : decode cX6_friendLine 52 = .ok (.getfield 35, 3) := by decide +kernel
theorem dX6_friendLine_55 : decode cX6_friendLine 55 = .ok (.iconst 0, 1) := by decide +kernel
theorem dX6_friendLine_56 : decode cX6_friendLine 56 = .ok (.iaload, 1) := by decide +kernel
theorem dX6_friendLine_57 : decode cX6_friendLine 57 = .ok (.iastore, 1) := by decide +kernel
theorem dX6_friendLine_58 : decode cX6_friendLine 58 = .ok (.aload_n 0, 1) := by decide +kernel
theorem dX6_friendLine_59 : decode cX6_friendLine 59 = .ok (.getfield 12, 3) := by decide +kernel
theorem dX6_friendLine_62 : decode cX6_friendLine 62 = .ok (.getfield 198, 3) := by decide +kernel
theorem dX6_friendLine_65 : decode cX6_friendLine 65 = .ok (.aload_n 0, 1) := by decide +kernel
theorem dX6_friendLine_66 : decode cX6_friendLine 66 = .ok (.getfield 12, 3) := by decide +kernel
theorem dX6_friendLine_69 : decode cX6_friendLine 69 = .ok (.getfield 114, 3) := by decide +kernel
theorem dX6_friendLine_72 : decode cX6_friendLine 72 = .ok (.aload_n 0, 1) := by decide +kernel
theorem dX6_friendLine_73 : decode cX6_friendLine 73 = .ok (.getfield 35, 3) := by decide +kernel
theorem dX6_friendLine_76 : decode cX6_friendLine 76 = .ok (.iconst 1, 1) := by decide +kernel
theorem dX6_friendLine_77 : decode cX6_friendLine 77 = .ok (.iaload, 1) := by decide +kernel
theorem dX6_friendLine_78 : decode cX6_friendLine 78 = .ok (.iastore, 1) := by decide +kernel
theorem dX6_friendLine_79 : decode cX6_friendLine 79 = .ok (.aload_n 0, 1) := by decide +kernel
theorem dX6_friendLine_80 : decode cX6_friendLine 80 = .ok (.getfield 12, 3) := by decide +kernel
theorem dX6_friendLine_83 : decode cX6_friendLine 83 = .ok (.dup, 1) := by decide +kernel
theorem dX6_friendLine_84 : decode cX6_friendLine 84 = .ok (.getfield 114, 3) := by decide +kernel
theorem dX6_friendLine_87 : decode cX6_friendLine 87 = .ok (.iconst 1, 1) := by decide +kernel
theorem dX6_friendLine_88 : decode cX6_friendLine 88 = .ok (.iadd, 1) := by decide +kernel
theorem dX6_friendLine_89 : decode cX6_friendLine 89 = .ok (.putfield 114, 3) := by decide +kernel
theorem dX6_friendLine_92 : decode cX6_friendLine 92 = .ok (.aload_n 0, 1) := by decide +kernel
theorem dX6_friendLine_93 : decode cX6_friendLine 93 = .ok (.invokevirtual 165, 3) := by decide +kernel
theorem dX6_friendLine_96 : decode cX6_friendLine 96 = .ok (.ireturn, 1) := by decide +kernel
theorem dX6_fighterLine_0 : decode cX6_fighterLine 0 = .ok (.aload_n 0, 1) := by decide +kernel
theorem dX6_fighterLine_1 : decode cX6_fighterLine 1 = .ok (.iconst 0, 1) := by decide +kernel
theorem dX6_fighterLine_2 : decode cX6_fighterLine 2 = .ok (.iconst 0, 1) := by decide +kernel
theorem dX6_fighterLine_3 : decode cX6_fighterLine 3 = .ok (.bipush 20, 2) := by decide +kernel
theorem dX6_fighterLine_5 : decode cX6_fighterLine 5 = .ok (.invokevirtual 152, 3) := by decide +kernel
theorem dX6_fighterLine_8 : decode cX6_fighterLine 8 = .ok (.ifCond .eq 13, 3) := by decide +kernel
theorem dX6_fighterLine_11 : decode cX6_fighterLine 11 = .ok (.aload_n 0, 1) := by decide +kernel
theorem dX6_fighterLine_12 : decode cX6_fighterLine 12 = .ok (.iconst 1, 1) := by decide +kernel
theorem dX6_fighterLine_13 : decode cX6_fighterLine 13 = .ok (.iconst 0, 1) := by decide +kernel
theorem dX6_fighterLine_14 : decode cX6_fighterLine 14 = .ok (.iconst 3, 1) := by decide +kernel
theorem dX6_fighterLine_15 : decode cX6_fighterLine 15 = .ok (.invokevirtual 152, 3) := by decide +kernel
theorem dX6_fighterLine_18 : decode cX6_fighterLine 18 = .ok (.ifCond .ne 5, 3) := by decide +kernel
theorem dX6_fighterLine_21 : decode cX6_fighterLine 21 = .ok (.iconst 0, 1) := by decide +kernel
theorem dX6_fighterLine_22 : decode cX6_fighterLine 22 = .ok (.ireturn, 1) := by decide +kernel
theorem dX6_fighterLine_23 : decode cX6_fighterLine 23 = .ok (.aload_n 1, 1) := by decide +kernel
theorem dX6_fighterLine_24 : decode cX6_fighterLine 24 = .ok (.getfield 124, 3) := by decide +kernel
theorem dX6_fighterLine_27 : decode cX6_fighterLine 27 = .ok (.bipush 7, 2) := by decide +kernel
theorem dX6_fighterLine_29 : decode cX6_fighterLine 29 = .ok (.if_icmp .ge 43, 3) := by decide +kernel
theorem dX6_fighterLine_32 : decode cX6_fighterLine 32 = .ok (.aload_n 1, 1) := by decide +kernel
theorem dX6_fighterLine_33 : decode cX6_fighterLine 33 = .ok (.getfield 201, 3) := by decide +kernel
theorem dX6_fighterLine_36 : decode cX6_fighterLine 36 = .ok (.aload_n 1, 1) := by decide +kernel
theorem dX6_fighterLine_37 : decode cX6_fighterLine 37 = .ok (.getfield 124, 3) := by decide +kernel
theorem dX6_fighterLine_40 : decode cX6_fighterLine 40 = .ok (.aload_n 0, 1) := by decide +kernel
theorem dX6_fighterLine_41 : decode cX6_fighterLine 41 = .ok (.getfield 35, 3) := by decide +kernel
theorem dX6_fighterLine_44 : decode cX6_fighterLine 44 = .ok (.iconst 0, 1) := by decide +kernel
theorem dX6_fighterLine_45 : decode cX6_fighterLine 45 = .ok (.iaload, 1) := by decide +kernel
theorem dX6_fighterLine_46 : decode cX6_fighterLine 46 = .ok (.iastore, 1) := by decide +kernel
theorem dX6_fighterLine_47 : decode cX6_fighterLine 47 = .ok (.aload_n 1, 1) := by decide +kernel
theorem dX6_fighterLine_48 : decode cX6_fighterLine 48 = .ok (.getfield 204, 3) := by decide +kernel
theorem dX6_fighterLine_51 : decode cX6_fighterLine 51 = .ok (.aload_n 1, 1) := by decide +kernel
theorem dX6_fighterLine_52 : decode cX6_fighterLine 52 = .ok (.getfield 124, 3) := by decide +kernel
theorem dX6_fighterLine_55 : decode cX6_fighterLine 55 = .ok (.aload_n 0, 1) := by decide +kernel
theorem dX6_fighterLine_56 : decode cX6_fighterLine 56 = .ok (.getfield 35, 3) := by decide +kernel
theorem dX6_fighterLine_59 : decode cX6_fighterLine 59 = .ok (.iconst 1, 1) := by decide +kernel
theorem dX6_fighterLine_60 : decode cX6_fighterLine 60 = .ok (.iaload, 1) := by decide +kernel
theorem dX6_fighterLine_61 : decode cX6_fighterLine 61 = .ok (.iastore, 1) := by decide +kernel
theorem dX6_fighterLine_62 : decode cX6_fighterLine 62 = .ok (.aload_n 1, 1) := by decide +kernel
theorem dX6_fighterLine_63 : decode cX6_fighterLine 63 = .ok (.dup, 1) := by decide +kernel
theorem dX6_fighterLine_64 : decode cX6_fighterLine 64 = .ok (.getfield 124, 3) := by decide +kernel
theorem dX6_fighterLine_67 : decode cX6_fighterLine 67 = .ok (.iconst 1, 1) := by decide +kernel
theorem dX6_fighterLine_68 : decode cX6_fighterLine 68 = .ok (.iadd, 1) := by decide +kernel
theorem dX6_fighterLine_69 : decode cX6_fighterLine 69 = .ok (.putfield 124, 3) := by decide +kernel
theorem dX6_fighterLine_72 : decode cX6_fighterLine 72 = .ok (.aload_n 0, 1) := by decide +kernel
theorem dX6_fighterLine_73 : decode cX6_fighterLine 73 = .ok (.invokevirtual 165, 3) := by decide +kernel
theorem dX6_fighterLine_76 : decode cX6_fighterLine 76 = .ok (.ireturn, 1) := by decide +kernel
theorem dX6_ruleLine_0 : decode cX6_ruleLine 0 = .ok (.aload_n 0, 1) := by decide +kernel
theorem dX6_ruleLine_1 : decode cX6_ruleLine 1 = .ok (.aload_n 1, 1) := by decide +kernel
theorem dX6_ruleLine_2 : decode cX6_ruleLine 2 = .ok (.putfield 52, 3) := by decide +kernel
theorem dX6_ruleLine_5 : decode cX6_ruleLine 5 = .ok (.aload_n 0, 1) := by decide +kernel
theorem dX6_ruleLine_6 : decode cX6_ruleLine 6 = .ok (.getfield 52, 3) := by decide +kernel
theorem dX6_ruleLine_9 : decode cX6_ruleLine 9 = .ok (.aload_n 0, 1) := by decide +kernel
theorem dX6_ruleLine_10 : decode cX6_ruleLine 10 = .ok (.getfield 12, 3) := by decide +kernel
theorem dX6_ruleLine_13 : decode cX6_ruleLine 13 = .ok (.getfield 48, 3) := by decide +kernel
theorem dX6_ruleLine_16 : decode cX6_ruleLine 16 = .ok (.getfield 206, 3) := by decide +kernel
theorem dX6_ruleLine_19 : decode cX6_ruleLine 19 = .ok (.aload_n 0, 1) := by decide +kernel
theorem dX6_ruleLine_20 : decode cX6_ruleLine 20 = .ok (.getfield 12, 3) := by decide +kernel
theorem dX6_ruleLine_23 : decode cX6_ruleLine 23 = .ok (.getfield 140, 3) := by decide +kernel
theorem dX6_ruleLine_26 : decode cX6_ruleLine 26 = .ok (.getfield 206, 3) := by decide +kernel
theorem dX6_ruleLine_29 : decode cX6_ruleLine 29 = .ok (.invokestatic 211, 3) := by decide +kernel
theorem dX6_ruleLine_32 : decode cX6_ruleLine 32 = .ok (.invokevirtual 217, 3) := by decide +kernel
theorem dX6_ruleLine_35 : decode cX6_ruleLine 35 = .ok (.aload_n 0, 1) := by decide +kernel
theorem dX6_ruleLine_36 : decode cX6_ruleLine 36 = .ok (.iconst 0, 1) := by decide +kernel
theorem dX6_ruleLine_37 : decode cX6_ruleLine 37 = .ok (.invokevirtual 220, 3) := by decide +kernel
theorem dX6_ruleLine_40 : decode cX6_ruleLine 40 = .ok (.ifCond .eq 14, 3) := by decide +kernel
theorem dX6_ruleLine_43 : decode cX6_ruleLine 43 = .ok (.aload_n 0, 1) := by decide +kernel
theorem dX6_ruleLine_44 : decode cX6_ruleLine 44 = .ok (.invokevirtual 165, 3) := by decide +kernel
theorem dX6_ruleLine_47 : decode cX6_ruleLine 47 = .ok (.ifCond .eq 7, 3) := by decide +kernel
theorem dX6_ruleLine_50 : decode cX6_ruleLine 50 = .ok (.iconst 1, 1) := by decide +kernel
theorem dX6_ruleLine_51 : decode cX6_ruleLine 51 = .ok (.goto 4, 3) := by decide +kernel
theorem dX6_ruleLine_54 : decode cX6_ruleLine 54 = .ok (.iconst 0, 1) := by decide +kernel
theorem dX6_ruleLine_55 : decode cX6_ruleLine 55 = .ok (.ireturn, 1) := by decide +kernel
theorem dX6_expr_0 : decode cX6_expr 0 = .ok (.aload_n 0, 1) := by decide +kernel
theorem dX6_expr_1 : decode cX6_expr 1 = .ok (.getfield 44, 3) := by decide +kernel
theorem dX6_expr_4 : decode cX6_expr 4 = .ok (.getfield 65, 3) := by decide +kernel
theorem dX6_expr_7 : decode cX6_expr 7 = .ok (.iconst 2, 1) := by decide +kernel
theorem dX6_expr_8 : decode cX6_expr 8 = .ok (.if_icmp .eq 26, 3) := by decide +kernel
theorem dX6_expr_11 : decode cX6_expr 11 = .ok (.aload_n 0, 1) := by decide +kernel
theorem dX6_expr_12 : decode cX6_expr 12 = .ok (.getfield 44, 3) := by decide +kernel
theorem dX6_expr_15 : decode cX6_expr 15 = .ok (.getfield 65, 3) := by decide +kernel
theorem dX6_expr_18 : decode cX6_expr 18 = .ok (.iconst 1, 1) := by decide +kernel
theorem dX6_expr_19 : decode cX6_expr 19 = .ok (.if_icmp .eq 15, 3) := by decide +kernel
theorem dX6_expr_22 : decode cX6_expr 22 = .ok (.aload_n 0, 1) := by decide +kernel
theorem dX6_expr_23 : decode cX6_expr 23 = .ok (.getfield 44, 3) := by decide +kernel
theorem dX6_expr_26 : decode cX6_expr 26 = .ok (.getfield 65, 3) := by decide +kernel
theorem dX6_expr_29 : decode cX6_expr 29 = .ok (.bipush 40, 2) := by decide +kernel
theorem dX6_expr_31 : decode cX6_expr 31 = .ok (.if_icmp .ne 7, 3) := by decide +kernel
theorem dX6_expr_34 : decode cX6_expr 34 = .ok (.iconst 1, 1) := by decide +kernel
theorem dX6_expr_35 : decode cX6_expr 35 = .ok (.goto 4, 3) := by decide +kernel
theorem dX6_expr_38 : decode cX6_expr 38 = .ok (.iconst 0, 1) := by decide +kernel
theorem dX6_expr_39 : decode cX6_expr 39 = .ok (.istore_n 2, 1) := by decide +kernel
theorem dX6_expr_40 : decode cX6_expr 40 = .ok (.iload_n 1, 1) := by decide +kernel
theorem dX6_expr_41 : decode cX6_expr 41 = .ok (.bipush 6, 2) := by decide +kernel
theorem dX6_expr_43 : decode cX6_expr 43 = .ok (.if_icmp .lt 13, 3) := by decide +kernel
theorem dX6_expr_46 : decode cX6_expr 46 = .ok (.iload_n 2, 1) := by decide +kernel
theorem dX6_expr_47 : decode cX6_expr 47 = .ok (.ifCond .eq 9, 3) := by decide +kernel
theorem dX6_expr_50 : decode cX6_expr 50 = .ok (.aload_n 0, 1) := by decide +kernel
theorem dX6_expr_51 : decode cX6_expr 51 = .ok (.iconst 2, 1) := by decide +kernel
theorem dX6_expr_52 : decode cX6_expr 52 = .ok (.invokevirtual 143, 3) := by decide +kernel
theorem dX6_expr_55 : decode cX6_expr 55 = .ok (.ireturn, 1) := by decide +kernel
theorem dX6_expr_56 : decode cX6_expr 56 = .ok (.aload_n 0, 1) := by decide +kernel
theorem dX6_expr_57 : decode cX6_expr 57 = .ok (.iload_n 1, 1) := by decide +kernel
theorem dX6_expr_58 : decode cX6_expr 58 = .ok (.invokevirtual 223, 3) := by decide +kernel
theorem dX6_expr_61 : decode cX6_expr 61 = .ok (.ifCond .ne 5, 3) := by decide +kernel
theorem dX6_expr_64 : decode cX6_expr 64 = .ok (.iconst 0, 1) := by decide +kernel
theorem dX6_expr_65 : decode cX6_expr 65 = .ok (.ireturn, 1) := by decide +kernel
theorem dX6_expr_66 : decode cX6_expr 66 = .ok (.iconst 0, 1) := by decide +kernel
theorem dX6_expr_67 : decode cX6_expr 67 = .ok (.istore_n 3, 1) := by decide +kernel
theorem dX6_expr_68 : decode cX6_expr 68 = .ok (.iload_n 3, 1) := by decide +kernel
theorem dX6_expr_69 : decode cX6_expr 69 = .ok (.sipush 700, 3) := by decide +kernel
theorem dX6_expr_72 : decode cX6_expr 72 = .ok (.if_icmp .ge 48, 3) := by decide +kernel
theorem dX6_expr_75 : decode cX6_expr 75 = .ok (.aload_n 0, 1) := by decide +kernel
theorem dX6_expr_76 : decode cX6_expr 76 = .ok (.getfield 44, 3) := by decide +kernel
theorem dX6_expr_79 : decode cX6_expr 79 = .ok (.getfield 78, 3) := by decide +kernel
theorem dX6_expr_82 : decode cX6_expr 82 = .ok (.getstatic 226, 3) := by decide +kernel
theorem dX6_expr_85 : decode cX6_expr 85 = .ok (.if_acmp .ne 35, 3) := by decide +kernel
theorem dX6_expr_88 : decode cX6_expr 88 = .ok (.aload_n 0, 1) := by decide +kernel
theorem dX6_expr_89 : decode cX6_expr 89 = .ok (.getfield 44, 3) := by decide +kernel
theorem dX6_expr_92 : decode cX6_expr 92 = .ok (.invokevirtual 146, 3) := by decide +kernel
theorem dX6_expr_95 : decode cX6_expr 95 = .ok (.aload_n 0, 1) := by decide +kernel
theorem dX6_expr_96 : decode cX6_expr 96 = .ok (.iload_n 1, 1) := by decide +kernel
theorem dX6_expr_97 : decode cX6_expr 97 = .ok (.invokevirtual 223, 3) := by decide +kernel
theorem dX6_expr_100 : decode cX6_expr 100 = .ok (.ifCond .ne 5, 3) := by decide +kernel
theorem dX6_expr_103 : decode cX6_expr 103 = .ok (.iconst 0, 1) := by decide +kernel
theorem dX6_expr_104 : decode cX6_expr 104 = .ok (.ireturn, 1) := by decide +kernel
theorem dX6_expr_105 : decode cX6_expr 105 = .ok (.aload_n 0, 1) := by decide +kernel
theorem dX6_expr_106 : decode cX6_expr 106 = .ok (.getfield 52, 3) := by decide +kernel
theorem dX6_expr_109 : decode cX6_expr 109 = .ok (.bipush (-8), 2) := by decide +kernel
theorem dX6_expr_111 : decode cX6_expr 111 = .ok (.invokevirtual 229, 3) := by decide +kernel
theorem dX6_expr_114 : decode cX6_expr 114 = .ok (.iinc 3 1, 3) := by decide +kernel
theorem dX6_expr_117 : decode cX6_expr 117 = .ok (.goto (-49), 3) := by decide +kernel
theorem dX6_expr_120 : decode cX6_expr 120 = .ok (.iconst 1, 1) := by decide +kernel
theorem dX6_expr_121 : decode cX6_expr 121 = .ok (.ireturn, 1) := by decide +kernel
theorem dX6_and_0 : decode cX6_and 0 = .ok (.aload_n 0, 1) := by decide +kernel
theorem dX6_and_1 : decode cX6_and 1 = .ok (.iload_n 1, 1) := by decide +kernel
theorem dX6_and_2 : decode cX6_and 2 = .ok (.invokevirtual 232, 3) := by decide +kernel
theorem dX6_and_5 : decode cX6_and 5 = .ok (.ifCond .ne 5, 3) := by decide +kernel
theorem dX6_and_8 : decode cX6_and 8 = .ok (.iconst 0, 1) := by decide +kernel
theorem dX6_and_9 : decode cX6_and 9 = .ok (.ireturn, 1) := by decide +kernel
theorem dX6_and_10 : decode cX6_and 10 = .ok (.iconst 0, 1) := by decide +kernel
theorem dX6_and_11 : decode cX6_and 11 = .ok (.istore_n 2, 1) := by decide +kernel
theorem dX6_and_12 : decode cX6_and 12 = .ok (.iload_n 2, 1) := by decide +kernel
theorem dX6_and_13 : decode cX6_and 13 = .ok (.sipush 700, 3) := by decide +kernel
theorem dX6_and_16 : decode cX6_and 16 = .ok (.if_icmp .ge 48, 3) := by decide +kernel
theorem dX6_and_19 : decode cX6_and 19 = .ok (.aload_n 0, 1) := by decide +kernel
theorem dX6_and_20 : decode cX6_and 20 = .ok (.getfield 44, 3) := by decide +kernel
theorem dX6_and_23 : decode cX6_and 23 = .ok (.getfield 78, 3) := by decide +kernel
theorem dX6_and_26 : decode cX6_and 26 = .ok (.getstatic 235, 3) := by decide +kernel
theorem dX6_and_29 : decode cX6_and 29 = .ok (.if_acmp .ne 35, 3) := by decide +kernel
theorem dX6_and_32 : decode cX6_and 32 = .ok (.aload_n 0, 1) := by decide +kernel
theorem dX6_and_33 : decode cX6_and 33 = .ok (.getfield 44, 3) := by decide +kernel
theorem dX6_and_36 : decode cX6_and 36 = .ok (.invokevirtual 146, 3) := by decide +kernel
theorem dX6_and_39 : decode cX6_and 39 = .ok (.aload_n 0, 1) := by decide +kernel
theorem dX6_and_40 : decode cX6_and 40 = .ok (.iload_n 1, 1) := by decide +kernel
theorem dX6_and_41 : decode cX6_and 41 = .ok (.invokevirtual 232, 3) := by decide +kernel
theorem dX6_and_44 : decode cX6_and 44 = .ok (.ifCond .ne 5, 3) := by decide +kernel
theorem dX6_and_47 : decode cX6_and 47 = .ok (.iconst 0, 1) := by decide +kernel
theorem dX6_and_48 : decode cX6_and 48 = .ok (.ireturn, 1) := by decide +kernel
theorem dX6_and_49 : decode cX6_and 49 = .ok (.aload_n 0, 1) := by decide +kernel
theorem dX6_and_50 : decode cX6_and 50 = .ok (.getfield 52, 3) := by decide +kernel
theorem dX6_and_53 : decode cX6_and 53 = .ok (.bipush (-9), 2) := by decide +kernel
theorem dX6_and_55 : decode cX6_and 55 = .ok (.invokevirtual 229, 3) := by decide +kernel
theorem dX6_and_58 : decode cX6_and 58 = .ok (.iinc 2 1, 3) := by decide +kernel
theorem dX6_and_61 : decode cX6_and 61 = .ok (.goto (-49), 3) := by decide +kernel
theorem dX6_and_64 : decode cX6_and 64 = .ok (.iconst 1, 1) := by decide +kernel
theorem dX6_and_65 : decode cX6_and 65 = .ok (.ireturn, 1) := by decide +kernel
theorem dX6_not_0 : decode cX6_not 0 = .ok (.iconst 0, 1) := by decide +kernel
theorem dX6_not_1 : decode cX6_not 1 = .ok (.istore_n 2, 1) := by decide +kernel
theorem dX6_not_2 : decode cX6_not 2 = .ok (.iload_n 2, 1) := by decide +kernel
theorem dX6_not_3 : decode cX6_not 3 = .ok (.bipush 6, 2) := by decide +kernel
theorem dX6_not_5 : decode cX6_not 5 = .ok (.if_icmp .gt 41, 3) := by decide +kernel
theorem dX6_not_8 : decode cX6_not 8 = .ok (.aload_n 0, 1) := by decide +kernel
theorem dX6_not_9 : decode cX6_not 9 = .ok (.getfield 44, 3) := by decide +kernel
theorem dX6_not_12 : decode cX6_not 12 = .ok (.getfield 78, 3) := by decide +kernel
theorem dX6_not_15 : decode cX6_not 15 = .ok (.getstatic 238, 3) := by decide +kernel
theorem dX6_not_18 : decode cX6_not 18 = .ok (.if_acmp .ne 28, 3) := by decide +kernel
theorem dX6_not_21 : decode cX6_not 21 = .ok (.iload_n 2, 1) := by decide +kernel
theorem dX6_not_22 : decode cX6_not 22 = .ok (.bipush 6, 2) := by decide +kernel
theorem dX6_not_24 : decode cX6_not 24 = .ok (.if_icmp .ne 9, 3) := by decide +kernel
theorem dX6_not_27 : decode cX6_not 27 = .ok (.aload_n 0, 1) := by decide +kernel
theorem dX6_not_28 : decode cX6_not 28 = .ok (.iconst 2, 1) := by decide +kernel
theorem dX6_not_29 : decode cX6_not 29 = .ok (.invokevirtual 143, 3) := by decide +kernel
theorem dX6_not_32 : decode cX6_not 32 = .ok (.ireturn, 1) := by decide +kernel
theorem dX6_not_33 : decode cX6_not 33 = .ok (.aload_n 0, 1) := by decide +kernel
theorem dX6_not_34 : decode cX6_not 34 = .ok (.getfield 44, 3) := by decide +kernel
theorem dX6_not_37 : decode cX6_not 37 = .ok (.invokevirtual 146, 3) := by decide +kernel
theorem dX6_not_40 : decode cX6_not 40 = .ok (.iinc 2 1, 3) := by decide +kernel
theorem dX6_not_43 : decode cX6_not 43 = .ok (.goto (-41), 3) := by decide +kernel
theorem dX6_not_46 : decode cX6_not 46 = .ok (.aload_n 0, 1) := by decide +kernel
theorem dX6_not_47 : decode cX6_not 47 = .ok (.iload_n 1, 1) := by decide +kernel
theorem dX6_not_48 : decode cX6_not 48 = .ok (.invokevirtual 241, 3) := by decide +kernel
theorem dX6_not_51 : decode cX6_not 51 = .ok (.ifCond .ne 5, 3) := by decide +kernel
theorem dX6_not_54 : decode cX6_not 54 = .ok (.iconst 0, 1) := by decide +kernel
theorem dX6_not_55 : decode cX6_not 55 = .ok (.ireturn, 1) := by decide +kernel
theorem dX6_not_56 : decode cX6_not 56 = .ok (.iconst 0, 1) := by decide +kernel
theorem dX6_not_57 : decode cX6_not 57 = .ok (.istore_n 3, 1) := by decide +kernel
theorem dX6_not_58 : decode cX6_not 58 = .ok (.iload_n 3, 1) := by decide +kernel
theorem dX6_not_59 : decode cX6_not 59 = .ok (.iload_n 2, 1) := by decide +kernel
theorem dX6_not_60 : decode cX6_not 60 = .ok (.if_icmp .ge 18, 3) := by decide +kernel
theorem dX6_not_63 : decode cX6_not 63 = .ok (.aload_n 0, 1) := by decide +kernel
theorem dX6_not_64 : decode cX6_not 64 = .ok (.getfield 52, 3) := by decide +kernel
theorem dX6_not_67 : decode cX6_not 67 = .ok (.bipush (-7), 2) := by decide +kernel
theorem dX6_not_69 : decode cX6_not 69 = .ok (.invokevirtual 229, 3) := by decide +kernel
theorem dX6_not_72 : decode cX6_not 72 = .ok (.iinc 3 1, 3) := by decide +kernel
theorem dX6_not_75 : decode cX6_not 75 = .ok (.goto (-17), 3) := by decide +kernel
theorem dX6_not_78 : decode cX6_not 78 = .ok (.iconst 1, 1) := by decide +kernel
theorem dX6_not_79 : decode cX6_not 79 = .ok (.ireturn, 1) := by decide +kernel
theorem dX6_test_0 : decode cX6_test 0 = .ok (.aload_n 0, 1) := by decide +kernel
theorem dX6_test_1 : decode cX6_test 1 = .ok (.iload_n 1, 1) := by decide +kernel
theorem dX6_test_2 : decode cX6_test 2 = .ok (.invokevirtual 244, 3) := by decide +kernel
theorem dX6_test_5 : decode cX6_test 5 = .ok (.ifCond .ne 5, 3) := by decide +kernel
theorem dX6_test_8 : decode cX6_test 8 = .ok (.iconst 0, 1) := by decide +kernel
theorem dX6_test_9 : decode cX6_test 9 = .ok (.ireturn, 1) := by decide +kernel
theorem dX6_test_10 : decode cX6_test 10 = .ok (.aload_n 0, 1) := by decide +kernel
theorem dX6_test_11 : decode cX6_test 11 = .ok (.getfield 44, 3) := by decide +kernel
theorem dX6_test_14 : decode cX6_test 14 = .ok (.getfield 65, 3) := by decide +kernel
theorem dX6_test_17 : decode cX6_test 17 = .ok (.bipush 60, 2) := by decide +kernel
theorem dX6_test_19 : decode cX6_test 19 = .ok (.if_icmp .eq 17, 3) := by decide +kernel
theorem dX6_test_22 : decode cX6_test 22 = .ok (.aload_n 0, 1) := by decide +kernel
theorem dX6_test_23 : decode cX6_test 23 = .ok (.getfield 44, 3) := by decide +kernel
theorem dX6_test_26 : decode cX6_test 26 = .ok (.getfield 65, 3) := by decide +kernel
theorem dX6_test_29 : decode cX6_test 29 = .ok (.bipush 61, 2) := by decide +kernel
theorem dX6_test_31 : decode cX6_test 31 = .ok (.if_icmp .eq 5, 3) := by decide +kernel
theorem dX6_test_34 : decode cX6_test 34 = .ok (.iconst 1, 1) := by decide +kernel
theorem dX6_test_35 : decode cX6_test 35 = .ok (.ireturn, 1) := by decide +kernel
theorem dX6_test_36 : decode cX6_test 36 = .ok (.aload_n 0, 1) := by decide +kernel
theorem dX6_test_37 : decode cX6_test 37 = .ok (.getfield 44, 3) := by decide +kernel
theorem dX6_test_40 : decode cX6_test 40 = .ok (.getfield 65, 3) := by decide +kernel
theorem dX6_test_43 : decode cX6_test 43 = .ok (.bipush 60, 2) := by decide +kernel
theorem dX6_test_45 : decode cX6_test 45 = .ok (.if_icmp .ne 8, 3) := by decide +kernel
theorem dX6_test_48 : decode cX6_test 48 = .ok (.bipush (-10), 2) := by decide +kernel
theorem dX6_test_50 : decode cX6_test 50 = .ok (.goto 5, 3) := by decide +kernel
theorem dX6_test_53 : decode cX6_test 53 = .ok (.bipush (-11), 2) := by decide +kernel
theorem dX6_test_55 : decode cX6_test 55 = .ok (.istore_n 2, 1) := by decide +kernel
theorem dX6_test_56 : decode cX6_test 56 = .ok (.aload_n 0, 1) := by decide +kernel
theorem dX6_test_57 : decode cX6_test 57 = .ok (.getfield 44, 3) := by decide +kernel
theorem dX6_test_60 : decode cX6_test 60 = .ok (.invokevirtual 146, 3) := by decide +kernel
theorem dX6_test_63 : decode cX6_test 63 = .ok (.aload_n 0, 1) := by decide +kernel
theorem dX6_test_64 : decode cX6_test 64 = .ok (.iload_n 1, 1) := by decide +kernel
theorem dX6_test_65 : decode cX6_test 65 = .ok (.invokevirtual 244, 3) := by decide +kernel
theorem dX6_test_68 : decode cX6_test 68 = .ok (.ifCond .ne 5, 3) := by decide +kernel
theorem dX6_test_71 : decode cX6_test 71 = .ok (.iconst 0, 1) := by decide +kernel
theorem dX6_test_72 : decode cX6_test 72 = .ok (.ireturn, 1) := by decide +kernel
theorem dX6_test_73 : decode cX6_test 73 = .ok (.aload_n 0, 1) := by decide +kernel
theorem dX6_test_74 : decode cX6_test 74 = .ok (.getfield 52, 3) := by decide +kernel
theorem dX6_test_77 : decode cX6_test 77 = .ok (.iload_n 2, 1) := by decide +kernel
theorem dX6_test_78 : decode cX6_test 78 = .ok (.invokevirtual 229, 3) := by decide +kernel
theorem dX6_test_81 : decode cX6_test 81 = .ok (.iconst 1, 1) := by decide +kernel
theorem dX6_test_82 : decode cX6_test 82 = .ok (.ireturn, 1) := by decide +kernel
theorem dX6_sum_0 : decode cX6_sum 0 = .ok (.aload_n 0, 1) := by decide +kernel
theorem dX6_sum_1 : decode cX6_sum 1 = .ok (.iload_n 1, 1) := by decide +kernel
theorem dX6_sum_2 : decode cX6_sum 2 = .ok (.invokevirtual 247, 3) := by decide +kernel
theorem dX6_sum_5 : decode cX6_sum 5 = .ok (.ifCond .ne 5, 3) := by decide +kernel
theorem dX6_sum_8 : decode cX6_sum 8 = .ok (.iconst 0, 1) := by decide +kernel
theorem dX6_sum_9 : decode cX6_sum 9 = .ok (.ireturn, 1) := by decide +kernel
theorem dX6_sum_10 : decode cX6_sum 10 = .ok (.iconst 0, 1) := by decide +kernel
theorem dX6_sum_11 : decode cX6_sum 11 = .ok (.istore_n 2, 1) := by decide +kernel
theorem dX6_sum_12 : decode cX6_sum 12 = .ok (.iload_n 2, 1) := by decide +kernel
theorem dX6_sum_13 : decode cX6_sum 13 = .ok (.sipush 700, 3) := by decide +kernel
theorem dX6_sum_16 : decode cX6_sum 16 = .ok (.if_icmp .ge 78, 3) := by decide +kernel
theorem dX6_sum_19 : decode cX6_sum 19 = .ok (.aload_n 0, 1) := by decide +kernel
theorem dX6_sum_20 : decode cX6_sum 20 = .ok (.getfield 44, 3) := by decide +kernel
theorem dX6_sum_23 : decode cX6_sum 23 = .ok (.getfield 65, 3) := by decide +kernel
theorem dX6_sum_26 : decode cX6_sum 26 = .ok (.bipush 43, 2) := by decide +kernel
theorem dX6_sum_28 : decode cX6_sum 28 = .ok (.if_icmp .eq 15, 3) := by decide +kernel
theorem dX6_sum_31 : decode cX6_sum 31 = .ok (.aload_n 0, 1) := by decide +kernel
theorem dX6_sum_32 : decode cX6_sum 32 = .ok (.getfield 44, 3) := by decide +kernel
theorem dX6_sum_35 : decode cX6_sum 35 = .ok (.getfield 65, 3) := by decide +kernel
theorem dX6_sum_38 : decode cX6_sum 38 = .ok (.bipush 45, 2) := by decide +kernel
theorem dX6_sum_40 : decode cX6_sum 40 = .ok (.if_icmp .ne 54, 3) := by decide +kernel
theorem dX6_sum_43 : decode cX6_sum 43 = .ok (.aload_n 0, 1) := by decide +kernel
theorem dX6_sum_44 : decode cX6_sum 44 = .ok (.getfield 44, 3) := by decide +kernel
theorem dX6_sum_47 : decode cX6_sum 47 = .ok (.getfield 65, 3) := by decide +kernel
theorem dX6_sum_50 : decode cX6_sum 50 = .ok (.bipush 43, 2) := by decide +kernel
theorem dX6_sum_52 : decode cX6_sum 52 = .ok (.if_icmp .ne 8, 3) := by decide +kernel
theorem dX6_sum_55 : decode cX6_sum 55 = .ok (.bipush (-12), 2) := by decide +kernel
theorem dX6_sum_57 : decode cX6_sum 57 = .ok (.goto 5, 3) := by decide +kernel
theorem dX6_sum_60 : decode cX6_sum 60 = .ok (.bipush (-13), 2) := by decide +kernel
theorem dX6_sum_62 : decode cX6_sum 62 = .ok (.istore_n 3, 1) := by decide +kernel
theorem dX6_sum_63 : decode cX6_sum 63 = .ok (.aload_n 0, 1) := by decide +kernel
theorem dX6_sum_64 : decode cX6_sum 64 = .ok (.getfield 44, 3) := by decide +kernel
theorem dX6_sum_67 : decode cX6_sum 67 = .ok (.invokevirtual 146, 3) := by decide +kernel
theorem dX6_sum_70 : decode cX6_sum 70 = .ok (.aload_n 0, 1) := by decide +kernel
theorem dX6_sum_71 : decode cX6_sum 71 = .ok (.iload_n 1, 1) := by decide +kernel
theorem dX6_sum_72 : decode cX6_sum 72 = .ok (.invokevirtual 247, 3) := by decide +kernel
theorem dX6_sum_75 : decode cX6_sum 75 = .ok (.ifCond .ne 5, 3) := by decide +kernel
theorem dX6_sum_78 : decode cX6_sum 78 = .ok (.iconst 0, 1) := by decide +kernel
theorem dX6_sum_79 : decode cX6_sum 79 = .ok (.ireturn, 1) := by decide +kernel
theorem dX6_sum_80 : decode cX6_sum 80 = .ok (.aload_n 0, 1) := by decide +kernel
theorem dX6_sum_81 : decode cX6_sum 81 = .ok (.getfield 52, 3) := by decide +kernel
theorem dX6_sum_84 : decode cX6_sum 84 = .ok (.iload_n 3, 1) := by decide +kernel
theorem dX6_sum_85 : decode cX6_sum 85 = .ok (.invokevirtual 229, 3) := by decide +kernel
theorem dX6_sum_88 : decode cX6_sum 88 = .ok (.iinc 2 1, 3) := by decide +kernel
theorem dX6_sum_91 : decode cX6_sum 91 = .ok (.goto (-79), 3) := by decide +kernel
theorem dX6_sum_94 : decode cX6_sum 94 = .ok (.iconst 1, 1) := by decide +kernel
theorem dX6_sum_95 : decode cX6_sum 95 = .ok (.ireturn, 1) := by decide +kernel
theorem dX6_product_0 : decode cX6_product 0 = .ok (.aload_n 0, 1) := by decide +kernel
theorem dX6_product_1 : decode cX6_product 1 = .ok (.iload_n 1, 1) := by decide +kernel
theorem dX6_product_2 : decode cX6_product 2 = .ok (.invokevirtual 250, 3) := by decide +kernel
theorem dX6_product_5 : decode cX6_product 5 = .ok (.ifCond .ne 5, 3) := by decide +kernel
theorem dX6_product_8 : decode cX6_product 8 = .ok (.iconst 0, 1) := by decide +kernel
theorem dX6_product_9 : decode cX6_product 9 = .ok (.ireturn, 1) := by decide +kernel
theorem dX6_product_10 : decode cX6_product 10 = .ok (.iconst 0, 1) := by decide +kernel
theorem dX6_product_11 : decode cX6_product 11 = .ok (.istore_n 2, 1) := by decide +kernel
theorem dX6_product_12 : decode cX6_product 12 = .ok (.iload_n 2, 1) := by decide +kernel
theorem dX6_product_13 : decode cX6_product 13 = .ok (.sipush 700, 3) := by decide +kernel
theorem dX6_product_16 : decode cX6_product 16 = .ok (.if_icmp .ge 78, 3) := by decide +kernel
theorem dX6_product_19 : decode cX6_product 19 = .ok (.aload_n 0, 1) := by decide +kernel
theorem dX6_product_20 : decode cX6_product 20 = .ok (.getfield 44, 3) := by decide +kernel
theorem dX6_product_23 : decode cX6_product 23 = .ok (.getfield 65, 3) := by decide +kernel
theorem dX6_product_26 : decode cX6_product 26 = .ok (.bipush 42, 2) := by decide +kernel
theorem dX6_product_28 : decode cX6_product 28 = .ok (.if_icmp .eq 15, 3) := by decide +kernel
theorem dX6_product_31 : decode cX6_product 31 = .ok (.aload_n 0, 1) := by decide +kernel
theorem dX6_product_32 : decode cX6_product 32 = .ok (.getfield 44, 3) := by decide +kernel
theorem dX6_product_35 : decode cX6_product 35 = .ok (.getfield 65, 3) := by decide +kernel
theorem dX6_product_38 : decode cX6_product 38 = .ok (.bipush 47, 2) := by decide +kernel
theorem dX6_product_40 : decode cX6_product 40 = .ok (.if_icmp .ne 54, 3) := by decide +kernel
theorem dX6_product_43 : decode cX6_product 43 = .ok (.aload_n 0, 1) := by decide +kernel
theorem dX6_product_44 : decode cX6_product 44 = .ok (.getfield 44, 3) := by decide +kernel
theorem dX6_product_47 : decode cX6_product 47 = .ok (.getfield 65, 3) := by decide +kernel
theorem dX6_product_50 : decode cX6_product 50 = .ok (.bipush 42, 2) := by decide +kernel
theorem dX6_product_52 : decode cX6_product 52 = .ok (.if_icmp .ne 8, 3) := by decide +kernel
theorem dX6_product_55 : decode cX6_product 55 = .ok (.bipush (-14), 2) := by decide +kernel
theorem dX6_product_57 : decode cX6_product 57 = .ok (.goto 5, 3) := by decide +kernel
theorem dX6_product_60 : decode cX6_product 60 = .ok (.bipush (-15), 2) := by decide +kernel
theorem dX6_product_62 : decode cX6_product 62 = .ok (.istore_n 3, 1) := by decide +kernel
theorem dX6_product_63 : decode cX6_product 63 = .ok (.aload_n 0, 1) := by decide +kernel
theorem dX6_product_64 : decode cX6_product 64 = .ok (.getfield 44, 3) := by decide +kernel
theorem dX6_product_67 : decode cX6_product 67 = .ok (.invokevirtual 146, 3) := by decide +kernel
theorem dX6_product_70 : decode cX6_product 70 = .ok (.aload_n 0, 1) := by decide +kernel
theorem dX6_product_71 : decode cX6_product 71 = .ok (.iload_n 1, 1) := by decide +kernel
theorem dX6_product_72 : decode cX6_product 72 = .ok (.invokevirtual 250, 3) := by decide +kernel
theorem dX6_product_75 : decode cX6_product 75 = .ok (.ifCond .ne 5, 3) := by decide +kernel
theorem dX6_product_78 : decode cX6_product 78 = .ok (.iconst 0, 1) := by decide +kernel
theorem dX6_product_79 : decode cX6_product 79 = .ok (.ireturn, 1) := by decide +kernel
theorem dX6_product_80 : decode cX6_product 80 = .ok (.aload_n 0, 1) := by decide +kernel
theorem dX6_product_81 : decode cX6_product 81 = .ok (.getfield 52, 3) := by decide +kernel
theorem dX6_product_84 : decode cX6_product 84 = .ok (.iload_n 3, 1) := by decide +kernel
theorem dX6_product_85 : decode cX6_product 85 = .ok (.invokevirtual 229, 3) := by decide +kernel
theorem dX6_product_88 : decode cX6_product 88 = .ok (.iinc 2 1, 3) := by decide +kernel
theorem dX6_product_91 : decode cX6_product 91 = .ok (.goto (-79), 3) := by decide +kernel
theorem dX6_product_94 : decode cX6_product 94 = .ok (.iconst 1, 1) := by decide +kernel
theorem dX6_product_95 : decode cX6_product 95 = .ok (.ireturn, 1) := by decide +kernel
theorem dX6_part_0 : decode cX6_part 0 = .ok (.aload_n 0, 1) := by decide +kernel
theorem dX6_part_1 : decode cX6_part 1 = .ok (.getfield 44, 3) := by decide +kernel
theorem dX6_part_4 : decode cX6_part 4 = .ok (.getfield 65, 3) := by decide +kernel
theorem dX6_part_7 : decode cX6_part 7 = .ok (.iconst 2, 1) := by decide +kernel
theorem dX6_part_8 : decode cX6_part 8 = .ok (.if_icmp .ne 45, 3) := by decide +kernel
theorem dX6_part_11 : decode cX6_part 11 = .ok (.aload_n 0, 1) := by decide +kernel
theorem dX6_part_12 : decode cX6_part 12 = .ok (.getfield 44, 3) := by decide +kernel
theorem dX6_part_15 : decode cX6_part 15 = .ok (.getfield 149, 3) := by decide +kernel
theorem dX6_part_18 : decode cX6_part 18 = .ok (.sipush 10000, 3) := by decide +kernel
theorem dX6_part_21 : decode cX6_part 21 = .ok (.if_icmp .ne 9, 3) := by decide +kernel
theorem dX6_part_24 : decode cX6_part 24 = .ok (.aload_n 0, 1) := by decide +kernel
theorem dX6_part_25 : decode cX6_part 25 = .ok (.iconst 2, 1) := by decide +kernel
theorem dX6_part_26 : decode cX6_part 26 = .ok (.invokevirtual 143, 3) := by decide +kernel
theorem dX6_part_29 : decode cX6_part 29 = .ok (.ireturn, 1) := by decide +kernel
theorem dX6_part_30 : decode cX6_part 30 = .ok (.aload_n 0, 1) := by decide +kernel
theorem dX6_part_31 : decode cX6_part 31 = .ok (.getfield 52, 3) := by decide +kernel
theorem dX6_part_34 : decode cX6_part 34 = .ok (.aload_n 0, 1) := by decide +kernel
theorem dX6_part_35 : decode cX6_part 35 = .ok (.getfield 44, 3) := by decide +kernel
theorem dX6_part_38 : decode cX6_part 38 = .ok (.getfield 149, 3) := by decide +kernel
theorem dX6_part_41 : decode cX6_part 41 = .ok (.invokevirtual 229, 3) := by decide +kernel
theorem dX6_part_44 : decode cX6_part 44 = .ok (.aload_n 0, 1) := by decide +kernel
theorem dX6_part_45 : decode cX6_part 45 = .ok (.getfield 44, 3) := by decide +kernel
theorem dX6_part_48 : decode cX6_part 48 = .ok (.invokevirtual 146, 3) := by decide +kernel
theorem dX6_part_51 : decode cX6_part 51 = .ok (.iconst 1, 1) := by decide +kernel
theorem dX6_part_52 : decode cX6_part 52 = .ok (.ireturn, 1) := by decide +kernel
theorem dX6_part_53 : decode cX6_part 53 = .ok (.aload_n 0, 1) := by decide +kernel
theorem dX6_part_54 : decode cX6_part 54 = .ok (.getfield 44, 3) := by decide +kernel
theorem dX6_part_57 : decode cX6_part 57 = .ok (.getfield 65, 3) := by decide +kernel
theorem dX6_part_60 : decode cX6_part 60 = .ok (.iconst 1, 1) := by decide +kernel
theorem dX6_part_61 : decode cX6_part 61 = .ok (.if_icmp .ne 106, 3) := by decide +kernel
theorem dX6_part_64 : decode cX6_part 64 = .ok (.aload_n 0, 1) := by decide +kernel
theorem dX6_part_65 : decode cX6_part 65 = .ok (.getfield 52, 3) := by decide +kernel
theorem dX6_part_68 : decode cX6_part 68 = .ok (.aload_n 0, 1) := by decide +kernel
theorem dX6_part_69 : decode cX6_part 69 = .ok (.getfield 12, 3) := by decide +kernel
theorem dX6_part_72 : decode cX6_part 72 = .ok (.getfield 48, 3) := by decide +kernel
theorem dX6_part_75 : decode cX6_part 75 = .ok (.if_acmp .ne 16, 3) := by decide +kernel
theorem dX6_part_78 : decode cX6_part 78 = .ok (.aload_n 0, 1) := by decide +kernel
theorem dX6_part_79 : decode cX6_part 79 = .ok (.getfield 44, 3) := by decide +kernel
theorem dX6_part_82 : decode cX6_part 82 = .ok (.getfield 78, 3) := by decide +kernel
theorem dX6_part_85 : decode cX6_part 85 = .ok (.getfield 253, 3) := by decide +kernel
theorem dX6_part_88 : decode cX6_part 88 = .ok (.goto 13, 3) := by decide +kernel
theorem dX6_part_91 : decode cX6_part 91 = .ok (.aload_n 0, 1) := by decide +kernel
theorem dX6_part_92 : decode cX6_part 92 = .ok (.getfield 44, 3) := by decide +kernel
theorem dX6_part_95 : decode cX6_part 95 = .ok (.getfield 78, 3) := by decide +kernel
theorem dX6_part_98 : decode cX6_part 98 = .ok (.getfield 256, 3) := by decide +kernel
theorem dX6_part_101 : decode cX6_part 101 = .ok (.istore_n 2, 1) := by decide +kernel
theorem dX6_part_102 : decode cX6_part 102 = .ok (.iload_n 2, 1) := by decide +kernel
theorem dX6_part_103 : decode cX6_part 103 = .ok (.iconst (-1), 1) := by decide +kernel
theorem dX6_part_104 : decode cX6_part 104 = .ok (.if_icmp .ne 9, 3) := by decide +kernel
theorem dX6_part_107 : decode cX6_part 107 = .ok (.aload_n 0, 1) := by decide +kernel
theorem dX6_part_108 : decode cX6_part 108 = .ok (.iconst 3, 1) := by decide +kernel
theorem dX6_part_109 : decode cX6_part 109 = .ok (.invokevirtual 143, 3) := by decide +kernel
theorem dX6_part_112 : decode cX6_part 112 = .ok (.ireturn, 1) := by decide +kernel
theorem dX6_part_113 : decode cX6_part 113 = .ok (.aload_n 0, 1) := by decide +kernel
theorem dX6_part_114 : decode cX6_part 114 = .ok (.getfield 52, 3) := by decide +kernel
theorem dX6_part_117 : decode cX6_part 117 = .ok (.iconst (-1), 1) := by decide +kernel
theorem dX6_part_118 : decode cX6_part 118 = .ok (.iload_n 2, 1) := by decide +kernel
theorem dX6_part_119 : decode cX6_part 119 = .ok (.isub, 1) := by decide +kernel
theorem dX6_part_120 : decode cX6_part 120 = .ok (.invokevirtual 229, 3) := by decide +kernel
theorem dX6_part_123 : decode cX6_part 123 = .ok (.aload_n 0, 1) := by decide +kernel
theorem dX6_part_124 : decode cX6_part 124 = .ok (.getfield 52, 3) := by decide +kernel
theorem dX6_part_127 : decode cX6_part 127 = .ok (.aload_n 0, 1) := by decide +kernel
theorem dX6_part_128 : decode cX6_part 128 = .ok (.getfield 52, 3) := by decide +kernel
theorem dX6_part_131 : decode cX6_part 131 = .ok (.getfield 259, 3) := by decide +kernel
theorem dX6_part_134 : decode cX6_part 134 = .ok (.ifCond .ne 16, 3) := by decide +kernel
theorem dX6_part_137 : decode cX6_part 137 = .ok (.aload_n 0, 1) := by decide +kernel
theorem dX6_part_138 : decode cX6_part 138 = .ok (.getfield 44, 3) := by decide +kernel
theorem dX6_part_141 : decode cX6_part 141 = .ok (.getfield 78, 3) := by decide +kernel
theorem dX6_part_144 : decode cX6_part 144 = .ok (.getstatic 263, 3) := by decide +kernel
theorem dX6_part_147 : decode cX6_part 147 = .ok (.if_acmp .ne 7, 3) := by decide +kernel
theorem dX6_part_150 : decode cX6_part 150 = .ok (.iconst 1, 1) := by decide +kernel
theorem dX6_part_151 : decode cX6_part 151 = .ok (.goto 4, 3) := by decide +kernel
theorem dX6_part_154 : decode cX6_part 154 = .ok (.iconst 0, 1) := by decide +kernel
theorem dX6_part_155 : decode cX6_part 155 = .ok (.putfield 259, 3) := by decide +kernel
theorem dX6_part_158 : decode cX6_part 158 = .ok (.aload_n 0, 1) := by decide +kernel
theorem dX6_part_159 : decode cX6_part 159 = .ok (.getfield 44, 3) := by decide +kernel
theorem dX6_part_162 : decode cX6_part 162 = .ok (.invokevirtual 146, 3) := by decide +kernel
theorem dX6_part_165 : decode cX6_part 165 = .ok (.iconst 1, 1) := by decide +kernel
theorem dX6_part_166 : decode cX6_part 166 = .ok (.ireturn, 1) := by decide +kernel
theorem dX6_part_167 : decode cX6_part 167 = .ok (.aload_n 0, 1) := by decide +kernel
theorem dX6_part_168 : decode cX6_part 168 = .ok (.getfield 44, 3) := by decide +kernel
theorem dX6_part_171 : decode cX6_part 171 = .ok (.getfield 65, 3) := by decide +kernel
theorem dX6_part_174 : decode cX6_part 174 = .ok (.bipush 40, 2) := by decide +kernel
theorem dX6_part_176 : decode cX6_part 176 = .ok (.if_icmp .eq 9, 3) := by decide +kernel
theorem dX6_part_179 : decode cX6_part 179 = .ok (.aload_n 0, 1) := by decide +kernel
theorem dX6_part_180 : decode cX6_part 180 = .ok (.iconst 1, 1) := by decide +kernel
theorem dX6_part_181 : decode cX6_part 181 = .ok (.invokevirtual 143, 3) := by decide +kernel
theorem dX6_part_184 : decode cX6_part 184 = .ok (.ireturn, 1) := by decide +kernel
theorem dX6_part_185 : decode cX6_part 185 = .ok (.aload_n 0, 1) := by decide +kernel
theorem dX6_part_186 : decode cX6_part 186 = .ok (.getfield 44, 3) := by decide +kernel
theorem dX6_part_189 : decode cX6_part 189 = .ok (.invokevirtual 146, 3) := by decide +kernel
theorem dX6_part_192 : decode cX6_part 192 = .ok (.aload_n 0, 1) := by decide +kernel
theorem dX6_part_193 : decode cX6_part 193 = .ok (.iload_n 1, 1) := by decide +kernel
theorem dX6_part_194 : decode cX6_part 194 = .ok (.iconst 1, 1) := by decide +kernel
theorem dX6_part_195 : decode cX6_part 195 = .ok (.iadd, 1) := by decide +kernel
theorem dX6_part_196 : decode cX6_part 196 = .ok (.invokevirtual 220, 3) := by decide +kernel
theorem dX6_part_199 : decode cX6_part 199 = .ok (.ifCond .ne 5, 3) := by decide +kernel
theorem dX6_part_202 : decode cX6_part 202 = .ok (.iconst 0, 1) := by decide +kernel
theorem dX6_part_203 : decode cX6_part 203 = .ok (.ireturn, 1) := by decide +kernel
theorem dX6_part_204 : decode cX6_part 204 = .ok (.aload_n 0, 1) := by decide +kernel
theorem dX6_part_205 : decode cX6_part 205 = .ok (.getfield 44, 3) := by decide +kernel
theorem dX6_part_208 : decode cX6_part 208 = .ok (.getfield 65, 3) := by decide +kernel
theorem dX6_part_211 : decode cX6_part 211 = .ok (.bipush 41, 2) := by decide +kernel
theorem dX6_part_213 : decode cX6_part 213 = .ok (.if_icmp .eq 9, 3) := by decide +kernel
theorem dX6_part_216 : decode cX6_part 216 = .ok (.aload_n 0, 1) := by decide +kernel
theorem dX6_part_217 : decode cX6_part 217 = .ok (.iconst 1, 1) := by decide +kernel
theorem dX6_part_218 : decode cX6_part 218 = .ok (.invokevirtual 143, 3) := by decide +kernel
theorem dX6_part_221 : decode cX6_part 221 = .ok (.ireturn, 1) := by decide +kernel
theorem dX6_part_222 : decode cX6_part 222 = .ok (.aload_n 0, 1) := by decide +kernel
theorem dX6_part_223 : decode cX6_part 223 = .ok (.getfield 44, 3) := by decide +kernel
theorem dX6_part_226 : decode cX6_part 226 = .ok (.invokevirtual 146, 3) := by decide +kernel
theorem dX6_part_229 : decode cX6_part 229 = .ok (.iconst 1, 1) := by decide +kernel
theorem dX6_part_230 : decode cX6_part 230 = .ok (.ireturn, 1) := by decide +kernel
theorem dX7_init_0 : decode cX7_init 0 = .ok (.aload_n 0, 1) := by decide +kernel
theorem dX7_init_1 : decode cX7_init 1 = .ok (.invokespecial 3, 3) := by decide +kernel
theorem dX7_init_4 : decode cX7_init 4 = .ok (.aload_n 0, 1) := by decide +kernel
theorem dX7_init_5 : decode cX7_init 5 = .ok (.new 9, 3) := by decide +kernel
theorem dX7_init_8 : decode cX7_init 8 = .ok (.dup, 1) := by decide +kernel
theorem dX7_init_9 : decode cX7_init 9 = .ok (.invokespecial 11, 3) := by decide +kernel
theorem dX7_init_12 : decode cX7_init 12 = .ok (.putfield 12, 3) := by decide +kernel
theorem dX7_init_15 : decode cX7_init 15 = .ok (.aload_n 0, 1) := by decide +kernel
theorem dX7_init_16 : decode cX7_init 16 = .ok (.bipush 6, 2) := by decide +kernel
theorem dX7_init_18 : decode cX7_init 18 = .ok (.newarray .int, 2) := by decide +kernel
theorem dX7_init_20 : decode cX7_init 20 = .ok (.putfield 20, 3) := by decide +kernel
theorem dX7_init_23 : decode cX7_init 23 = .ok (.aload_n 0, 1) := by decide +kernel
theorem dX7_init_24 : decode cX7_init 24 = .ok (.bipush 6, 2) := by decide +kernel
theorem dX7_init_26 : decode cX7_init 26 = .ok (.newarray .int, 2) := by decide +kernel
theorem dX7_init_28 : decode cX7_init 28 = .ok (.putfield 24, 3) := by decide +kernel
theorem dX7_init_31 : decode cX7_init 31 = .ok (.aload_n 0, 1) := by decide +kernel
theorem dX7_init_32 : decode cX7_init 32 = .ok (.bipush 40, 2) := by decide +kernel
theorem dX7_init_34 : decode cX7_init 34 = .ok (.newarray .int, 2) := by decide +kernel
theorem dX7_init_36 : decode cX7_init 36 = .ok (.putfield 27, 3) := by decide +kernel
theorem dX7_init_39 : decode cX7_init 39 = .ok (.return_, 1) := by decide +kernel
theorem dX7_harvestOf_0 : decode cX7_harvestOf 0 = .ok (.aload_n 0, 1) := by decide +kernel
theorem dX7_harvestOf_1 : decode cX7_harvestOf 1 = .ok (.getfield 12, 3) := by decide +kernel
theorem dX7_harvestOf_4 : decode cX7_harvestOf 4 = .ok (.getfield 30, 3) := by decide +kernel
theorem dX7_harvestOf_7 : decode cX7_harvestOf 7 = .ok (.ifCond .eq 7, 3) := by decide +kernel
theorem dX7_harvestOf_10 : decode cX7_harvestOf 10 = .ok (.iload_n 1, 1) := by decide +kernel
theorem dX7_harvestOf_11 : decode cX7_harvestOf 11 = .ok (.ifCond .ge 6, 3) := by decide +kernel
theorem dX7_harvestOf_14 : decode cX7_harvestOf 14 = .ok (.bipush 20, 2) := by decide +kernel
theorem dX7_harvestOf_16 : decode cX7_harvestOf 16 = .ok (.ireturn, 1) := by decide +kernel
theorem dX7_harvestOf_17 : decode cX7_harvestOf 17 = .ok (.aload_n 0, 1) := by decide +kernel
theorem dX7_harvestOf_18 : decode cX7_harvestOf 18 = .ok (.getfield 12, 3) := by decide +kernel
theorem dX7_harvestOf_21 : decode cX7_harvestOf 21 = .ok (.getfield 34, 3) := by decide +kernel
theorem dX7_harvestOf_24 : decode cX7_harvestOf 24 = .ok (.iload_n 1, 1) := by decide +kernel
theorem dX7_harvestOf_25 : decode cX7_harvestOf 25 = .ok (.aload_n 0, 1) := by decide +kernel
theorem dX7_harvestOf_26 : decode cX7_harvestOf 26 = .ok (.getfield 12, 3) := by decide +kernel
theorem dX7_harvestOf_29 : decode cX7_harvestOf 29 = .ok (.getfield 30, 3) := by decide +kernel
theorem dX7_harvestOf_32 : decode cX7_harvestOf 32 = .ok (.irem, 1) := by decide +kernel
theorem dX7_harvestOf_33 : decode cX7_harvestOf 33 = .ok (.iaload, 1) := by decide +kernel
theorem dX7_harvestOf_34 : decode cX7_harvestOf 34 = .ok (.ireturn, 1) := by decide +kernel
theorem dX7_wayDeed_0 : decode cX7_wayDeed 0 = .ok (.aload_n 0, 1) := by decide +kernel
theorem dX7_wayDeed_1 : decode cX7_wayDeed 1 = .ok (.getfield 12, 3) := by decide +kernel
theorem dX7_wayDeed_4 : decode cX7_wayDeed 4 = .ok (.getfield 37, 3) := by decide +kernel
theorem dX7_wayDeed_7 : decode cX7_wayDeed 7 = .ok (.iload_n 2, 1) := by decide +kernel
theorem dX7_wayDeed_8 : decode cX7_wayDeed 8 = .ok (.iaload, 1) := by decide +kernel
theorem dX7_wayDeed_9 : decode cX7_wayDeed 9 = .ok (.istore_n 3, 1) := by decide +kernel
theorem dX7_wayDeed_10 : decode cX7_wayDeed 10 = .ok (.iload_n 3, 1) := by decide +kernel
theorem dX7_wayDeed_11 : decode cX7_wayDeed 11 = .ok (.ifCond .ne 5, 3) := by decide +kernel
theorem dX7_wayDeed_14 : decode cX7_wayDeed 14 = .ok (.iconst (-1), 1) := by decide +kernel
theorem dX7_wayDeed_15 : decode cX7_wayDeed 15 = .ok (.ireturn, 1) := by decide +kernel
theorem dX7_wayDeed_16 : decode cX7_wayDeed 16 = .ok (.aload_n 1, 1) := by decide +kernel
theorem dX7_wayDeed_17 : decode cX7_wayDeed 17 = .ok (.getfield 40, 3) := by decide +kernel
theorem dX7_wayDeed_20 : decode cX7_wayDeed 20 = .ok (.iload_n 2, 1) := by decide +kernel
theorem dX7_wayDeed_21 : decode cX7_wayDeed 21 = .ok (.bipush 6, 2) := by decide +kernel
theorem dX7_wayDeed_23 : decode cX7_wayDeed 23 = .ok (.imul, 1) := by decide +kernel
theorem dX7_wayDeed_24 : decode cX7_wayDeed 24 = .ok (.aload_n 1, 1) := by decide +kernel
theorem dX7_wayDeed_25 : decode cX7_wayDeed 25 = .ok (.getfield 45, 3) := by decide +kernel
theorem dX7_wayDeed_28 : decode cX7_wayDeed 28 = .ok (.iload_n 2, 1) := by decide +kernel
theorem dX7_wayDeed_29 : decode cX7_wayDeed 29 = .ok (.iaload, 1) := by decide +kernel
theorem dX7_wayDeed_30 : decode cX7_wayDeed 30 = .ok (.iload_n 3, 1) := by decide +kernel
theorem dX7_wayDeed_31 : decode cX7_wayDeed 31 = .ok (.irem, 1) := by decide +kernel
theorem dX7_wayDeed_32 : decode cX7_wayDeed 32 = .ok (.iadd, 1) := by decide +kernel
theorem dX7_wayDeed_33 : decode cX7_wayDeed 33 = .ok (.iaload, 1) := by decide +kernel
theorem dX7_wayDeed_34 : decode cX7_wayDeed 34 = .ok (.ireturn, 1) := by decide +kernel
theorem dX7_passMany_0 : decode cX7_passMany 0 = .ok (.iconst 0, 1) := by decide +kernel
theorem dX7_passMany_1 : decode cX7_passMany 1 = .ok (.istore_n 3, 1) := by decide +kernel
theorem dX7_passMany_2 : decode cX7_passMany 2 = .ok (.iload_n 3, 1) := by decide +kernel
theorem dX7_passMany_3 : decode cX7_passMany 3 = .ok (.iload_n 2, 1) := by decide +kernel
theorem dX7_passMany_4 : decode cX7_passMany 4 = .ok (.if_icmp .ge 32, 3) := by decide +kernel
theorem dX7_passMany_7 : decode cX7_passMany 7 = .ok (.aload_n 0, 1) := by decide +kernel
theorem dX7_passMany_8 : decode cX7_passMany 8 = .ok (.aload_n 1, 1) := by decide +kernel
theorem dX7_passMany_9 : decode cX7_passMany 9 = .ok (.aload_n 0, 1) := by decide +kernel
theorem dX7_passMany_10 : decode cX7_passMany 10 = .ok (.aload_n 1, 1) := by decide +kernel
theorem dX7_passMany_11 : decode cX7_passMany 11 = .ok (.getfield 48, 3) := by decide +kernel
theorem dX7_passMany_14 : decode cX7_passMany 14 = .ok (.invokevirtual 51, 3) := by decide +kernel
theorem dX7_passMany_17 : decode cX7_passMany 17 = .ok (.aload_n 0, 1) := by decide +kernel
theorem dX7_passMany_18 : decode cX7_passMany 18 = .ok (.aload_n 1, 1) := by decide +kernel
theorem dX7_passMany_19 : decode cX7_passMany 19 = .ok (.aload_n 1, 1) := by decide +kernel
theorem dX7_passMany_20 : decode cX7_passMany 20 = .ok (.getfield 55, 3) := by decide +kernel
theorem dX7_passMany_23 : decode cX7_passMany 23 = .ok (.invokevirtual 58, 3) := by decide +kernel
theorem dX7_passMany_26 : decode cX7_passMany 26 = .ok (.invokevirtual 62, 3) := by decide +kernel
theorem dX7_passMany_29 : decode cX7_passMany 29 = .ok (.pop, 1) := by decide +kernel
theorem dX7_passMany_30 : decode cX7_passMany 30 = .ok (.iinc 3 1, 3) := by decide +kernel
theorem dX7_passMany_33 : decode cX7_passMany 33 = .ok (.goto (-31), 3) := by decide +kernel
theorem dX7_passMany_36 : decode cX7_passMany 36 = .ok (.return_, 1) := by decide +kernel
theorem dX7_passAlone_0 : decode cX7_passAlone 0 = .ok (.aload_n 0, 1) := by decide +kernel
theorem dX7_passAlone_1 : decode cX7_passAlone 1 = .ok (.aload_n 1, 1) := by decide +kernel
theorem dX7_passAlone_2 : decode cX7_passAlone 2 = .ok (.aload_n 0, 1) := by decide +kernel
theorem dX7_passAlone_3 : decode cX7_passAlone 3 = .ok (.aload_n 1, 1) := by decide +kernel
theorem dX7_passAlone_4 : decode cX7_passAlone 4 = .ok (.getfield 48, 3) := by decide +kernel
theorem dX7_passAlone_7 : decode cX7_passAlone 7 = .ok (.invokevirtual 51, 3) := by decide +kernel
theorem dX7_passAlone_10 : decode cX7_passAlone 10 = .ok (.invokevirtual 66, 3) := by decide +kernel
theorem dX7_passAlone_13 : decode cX7_passAlone 13 = .ok (.aload_n 0, 1) := by decide +kernel
theorem dX7_passAlone_14 : decode cX7_passAlone 14 = .ok (.aload_n 1, 1) := by decide +kernel
theorem dX7_passAlone_15 : decode cX7_passAlone 15 = .ok (.aload_n 0, 1) := by decide +kernel
theorem dX7_passAlone_16 : decode cX7_passAlone 16 = .ok (.aload_n 1, 1) := by decide +kernel
theorem dX7_passAlone_17 : decode cX7_passAlone 17 = .ok (.aload_n 1, 1) := by decide +kernel
theorem dX7_passAlone_18 : decode cX7_passAlone 18 = .ok (.getfield 55, 3) := by decide +kernel
theorem dX7_passAlone_21 : decode cX7_passAlone 21 = .ok (.invokevirtual 58, 3) := by decide +kernel
theorem dX7_passAlone_24 : decode cX7_passAlone 24 = .ok (.invokevirtual 70, 3) := by decide +kernel
theorem dX7_passAlone_27 : decode cX7_passAlone 27 = .ok (.pop, 1) := by decide +kernel
theorem dX7_passAlone_28 : decode cX7_passAlone 28 = .ok (.aload_n 0, 1) := by decide +kernel
theorem dX7_passAlone_29 : decode cX7_passAlone 29 = .ok (.aload_n 1, 1) := by decide +kernel
theorem dX7_passAlone_30 : decode cX7_passAlone 30 = .ok (.invokevirtual 74, 3) := by decide +kernel
theorem dX7_passAlone_33 : decode cX7_passAlone 33 = .ok (.return_, 1) := by decide +kernel
theorem dX7_live_0 : decode cX7_live 0 = .ok (.aload_n 0, 1) := by decide +kernel
theorem dX7_live_1 : decode cX7_live 1 = .ok (.aload_n 1, 1) := by decide +kernel
theorem dX7_live_2 : decode cX7_live 2 = .ok (.iload_n 2, 1) := by decide +kernel
theorem dX7_live_3 : decode cX7_live 3 = .ok (.invokevirtual 66, 3) := by decide +kernel
theorem dX7_live_6 : decode cX7_live 6 = .ok (.aload_n 0, 1) := by decide +kernel
theorem dX7_live_7 : decode cX7_live 7 = .ok (.aload_n 1, 1) := by decide +kernel
theorem dX7_live_8 : decode cX7_live 8 = .ok (.iload_n 3, 1) := by decide +kernel
theorem dX7_live_9 : decode cX7_live 9 = .ok (.invokevirtual 70, 3) := by decide +kernel
theorem dX7_live_12 : decode cX7_live 12 = .ok (.istore 4, 2) := by decide +kernel
theorem dX7_live_14 : decode cX7_live 14 = .ok (.aload_n 0, 1) := by decide +kernel
theorem dX7_live_15 : decode cX7_live 15 = .ok (.aload_n 1, 1) := by decide +kernel
theorem dX7_live_16 : decode cX7_live 16 = .ok (.invokevirtual 74, 3) := by decide +kernel
theorem dX7_live_19 : decode cX7_live 19 = .ok (.aload_n 0, 1) := by decide +kernel
theorem dX7_live_20 : decode cX7_live 20 = .ok (.aload_n 1, 1) := by decide +kernel
theorem dX7_live_21 : decode cX7_live 21 = .ok (.invokevirtual 78, 3) := by decide +kernel
theorem dX7_live_24 : decode cX7_live 24 = .ok (.iload 4, 2) := by decide +kernel
theorem dX7_live_26 : decode cX7_live 26 = .ok (.ireturn, 1) := by decide +kernel
theorem dX7_reap_0 : decode cX7_reap 0 = .ok (.aload_n 1, 1) := by decide +kernel
theorem dX7_reap_1 : decode cX7_reap 1 = .ok (.sipush 999, 3) := by decide +kernel
theorem dX7_reap_4 : decode cX7_reap 4 = .ok (.aload_n 1, 1) := by decide +kernel
theorem dX7_reap_5 : decode cX7_reap 5 = .ok (.getfield 81, 3) := by decide +kernel
theorem dX7_reap_8 : decode cX7_reap 8 = .ok (.iload_n 2, 1) := by decide +kernel
theorem dX7_reap_9 : decode cX7_reap 9 = .ok (.iadd, 1) := by decide +kernel
theorem dX7_reap_10 : decode cX7_reap 10 = .ok (.invokestatic 84, 3) := by decide +kernel
theorem dX7_reap_13 : decode cX7_reap 13 = .ok (.putfield 81, 3) := by decide +kernel
theorem dX7_reap_16 : decode cX7_reap 16 = .ok (.aload_n 1, 1) := by decide +kernel
theorem dX7_reap_17 : decode cX7_reap 17 = .ok (.sipush 999, 3) := by decide +kernel
theorem dX7_reap_20 : decode cX7_reap 20 = .ok (.aload_n 1, 1) := by decide +kernel
theorem dX7_reap_21 : decode cX7_reap 21 = .ok (.getfield 90, 3) := by decide +kernel
theorem dX7_reap_24 : decode cX7_reap 24 = .ok (.aload_n 1, 1) := by decide +kernel
theorem dX7_reap_25 : decode cX7_reap 25 = .ok (.getfield 90, 3) := by decide +kernel
theorem dX7_reap_28 : decode cX7_reap 28 = .ok (.bipush 10, 2) := by decide +kernel
theorem dX7_reap_30 : decode cX7_reap 30 = .ok (.idiv, 1) := by decide +kernel
theorem dX7_reap_31 : decode cX7_reap 31 = .ok (.iadd, 1) := by decide +kernel
theorem dX7_reap_32 : decode cX7_reap 32 = .ok (.invokestatic 84, 3) := by decide +kernel
theorem dX7_reap_35 : decode cX7_reap 35 = .ok (.putfield 90, 3) := by decide +kernel
theorem dX7_reap_38 : decode cX7_reap 38 = .ok (.return_, 1) := by decide +kernel
theorem dX7_perform_0 : decode cX7_perform 0 = .ok (.iload_n 2, 1) := by decide +kernel
theorem dX7_perform_1 : decode cX7_perform 1 = .ok (.ifCond .lt 14, 3) := by decide +kernel
theorem dX7_perform_4 : decode cX7_perform 4 = .ok (.iload_n 2, 1) := by decide +kernel
theorem dX7_perform_5 : decode cX7_perform 5 = .ok (.aload_n 0, 1) := by decide +kernel
theorem dX7_perform_6 : decode cX7_perform 6 = .ok (.getfield 12, 3) := by decide +kernel
theorem dX7_perform_9 : decode cX7_perform 9 = .ok (.getfield 93, 3) := by decide +kernel
theorem dX7_perform_12 : decode cX7_perform 12 = .ok (.if_icmp .lt 5, 3) := by decide +kernel
theorem dX7_perform_15 : decode cX7_perform 15 = .ok (.iconst 0, 1) := by decide +kernel
theorem dX7_perform_16 : decode cX7_perform 16 = .ok (.ireturn, 1) := by decide +kernel
theorem dX7_perform_17 : decode cX7_perform 17 = .ok (.aload_n 0, 1) := by decide +kernel
theorem dX7_perform_18 : decode cX7_perform 18 = .ok (.getfield 12, 3) := by decide +kernel
theorem dX7_perform_21 : decode cX7_perform 21 = .ok (.getfield 96, 3) := by decide +kernel
theorem dX7_perform_24 : decode cX7_perform 24 = .ok (.iload_n 2, 1) := by decide +kernel
theorem dX7_perform_25 : decode cX7_perform 25 = .ok (.iaload, 1) := by decide +kernel
theorem dX7_perform_26 : decode cX7_perform 26 = .ok (.aload_n 1, 1) := by decide +kernel
theorem dX7_perform_27 : decode cX7_perform 27 = .ok (.getfield 81, 3) := by decide +kernel
theorem dX7_perform_30 : decode cX7_perform 30 = .ok (.if_icmp .le 15, 3) := by decide +kernel
theorem dX7_perform_33 : decode cX7_perform 33 = .ok (.aload_n 1, 1) := by decide +kernel
theorem dX7_perform_34 : decode cX7_perform 34 = .ok (.dup, 1) := by decide +kernel
theorem dX7_perform_35 : decode cX7_perform 35 = .ok (.getfield 99, 3) := by decide +kernel
theorem dX7_perform_38 : decode cX7_perform 38 = .ok (.iconst 1, 1) := by decide +kernel
theorem dX7_perform_39 : decode cX7_perform 39 = .ok (.iadd, 1) := by decide +kernel
theorem dX7_perform_40 : decode cX7_perform 40 = .ok (.putfield 99, 3) := by decide +kernel
theorem dX7_perform_43 : decode cX7_perform 43 = .ok (.iconst 0, 1) := by decide +kernel
theorem dX7_perform_44 : decode cX7_perform 44 = .ok (.ireturn, 1) := by decide +kernel
theorem dX7_perform_45 : decode cX7_perform 45 = .ok (.aload_n 1, 1) := by decide +kernel
theorem dX7_perform_46 : decode cX7_perform 46 = .ok (.dup, 1) := by decide +kernel
theorem dX7_perform_47 : decode cX7_perform 47 = .ok (.getfield 81, 3) := by decide +kernel
theorem dX7_perform_50 : decode cX7_perform 50 = .ok (.aload_n 0, 1) := by decide +kernel
theorem dX7_perform_51 : decode cX7_perform 51 = .ok (.getfield 12, 3) := by decide +kernel
theorem dX7_perform_54 : decode cX7_perform 54 = .ok (.getfield 96, 3) := by decide +kernel
theorem dX7_perform_57 : decode cX7_perform 57 = .ok (.iload_n 2, 1) := by decide +kernel
theorem dX7_perform_58 : decode cX7_perform 58 = .ok (.iaload, 1) := by decide +kernel
theorem dX7_perform_59 : decode cX7_perform 59 = .ok (.isub, 1) := by decide +kernel
theorem dX7_perform_60 : decode cX7_perform 60 = .ok (.putfield 81, 3) := by decide +kernel
theorem dX7_perform_63 : decode cX7_perform 63 = .ok (.aload_n 1, 1) := by decide +kernel
theorem dX7_perform_64 : decode cX7_perform 64 = .ok (.iconst 0, 1) := by decide +kernel
theorem dX7_perform_65 : decode cX7_perform 65 = .ok (.bipush 99, 2) := by decide +kernel
theorem dX7_perform_67 : decode cX7_perform 67 = .ok (.aload_n 1, 1) := by decide +kernel
theorem dX7_perform_68 : decode cX7_perform 68 = .ok (.getfield 102, 3) := by decide +kernel
theorem dX7_perform_71 : decode cX7_perform 71 = .ok (.aload_n 0, 1) := by decide +kernel
theorem dX7_perform_72 : decode cX7_perform 72 = .ok (.getfield 12, 3) := by decide +kernel
theorem dX7_perform_75 : decode cX7_perform 75 = .ok (.getfield 105, 3) := by decide +kernel
theorem dX7_perform_78 : decode cX7_perform 78 = .ok (.iload_n 2, 1) := by decide +kernel
theorem dX7_perform_79 : decode cX7_perform 79 = .ok (.iaload, 1) := by decide +kernel
theorem dX7_perform_80 : decode cX7_perform 80 = .ok (.iadd, 1) := by decide +kernel
theorem dX7_perform_81 : decode cX7_perform 81 = .ok (.invokestatic 84, 3) := by decide +kernel
theorem dX7_perform_84 : decode cX7_perform 84 = .ok (.invokestatic 108, 3) := by decide +kernel
theorem dX7_perform_87 : decode cX7_perform 87 = .ok (.putfield 102, 3) := by decide +kernel
theorem dX7_perform_90 : decode cX7_perform 90 = .ok (.aload_n 1, 1) := by decide +kernel
theorem dX7_perform_91 : decode cX7_perform 91 = .ok (.iconst 0, 1) := by decide +kernel
theorem dX7_perform_92 : decode cX7_perform 92 = .ok (.sipush 999, 3) := by decide +kernel
theorem dX7_perform_95 : decode cX7_perform 95 = .ok (.aload_n 1, 1) := by decide +kernel
theorem dX7_perform_96 : decode cX7_perform 96 = .ok (.getfield 90, 3) := by decide +kernel
theorem dX7_perform_99 : decode cX7_perform 99 = .ok (.aload_n 0, 1) := by decide +kernel
theorem dX7_perform_100 : decode cX7_perform 100 = .ok (.getfield 12, 3) := by decide +kernel
theorem dX7_perform_103 : decode cX7_perform 103 = .ok (.getfield 111, 3) := by decide +kernel
theorem dX7_perform_106 : decode cX7_perform 106 = .ok (.iload_n 2, 1) := by decide +kernel
theorem dX7_perform_107 : decode cX7_perform 107 = .ok (.iaload, 1) := by decide +kernel
theorem dX7_perform_108 : decode cX7_perform 108 = .ok (.iadd, 1) := by decide +kernel
theorem dX7_perform_109 : decode cX7_perform 109 = .ok (.invokestatic 84, 3) := by decide +kernel
theorem dX7_perform_112 : decode cX7_perform 112 = .ok (.invokestatic 108, 3) := by decide +kernel
theorem dX7_perform_115 : decode cX7_perform 115 = .ok (.putfield 90, 3) := by decide +kernel
theorem dX7_perform_118 : decode cX7_perform 118 = .ok (.aload_n 1, 1) := by decide +kernel
theorem dX7_perform_119 : decode cX7_perform 119 = .ok (.getfield 114, 3) := by decide +kernel
theorem dX7_perform_122 : decode cX7_perform 122 = .ok (.aload_n 1, 1) := by decide +kernel
theorem dX7_perform_123 : decode cX7_perform 123 = .ok (.getfield 55, 3) := by decide +kernel
theorem dX7_perform_126 : decode cX7_perform 126 = .ok (.dup2, 1) := by decide +kernel
theorem dX7_perform_127 : decode cX7_perform 127 = .ok (.iaload, 1) := by decide +kernel
theorem dX7_perform_128 : decode cX7_perform 128 = .ok (.aload_n 0, 1) := by decide +kernel
theorem dX7_perform_129 : decode cX7_perform 129 = .ok (.getfield 12, 3) := by decide +kernel
theorem dX7_perform_132 : decode cX7_perform 132 = .ok (.getfield 117, 3) := by decide +kernel
theorem dX7_perform_135 : decode cX7_perform 135 = .ok (.iload_n 2, 1) := by decide +kernel
theorem dX7_perform_136 : decode cX7_perform 136 = .ok (.iaload, 1) := by decide +kernel
theorem dX7_perform_137 : decode cX7_perform 137 = .ok (.iadd, 1) := by decide +kernel
theorem dX7_perform_138 : decode cX7_perform 138 = .ok (.iastore, 1) := by decide +kernel
theorem dX7_perform_139 : decode cX7_perform 139 = .ok (.iconst 1, 1) := by decide +kernel
theorem dX7_perform_140 : decode cX7_perform 140 = .ok (.ireturn, 1) := by decide +kernel
theorem dX7_age_0 : decode cX7_age 0 = .ok (.aload_n 1, 1) := by decide +kernel
theorem dX7_age_1 : decode cX7_age 1 = .ok (.dup, 1) := by decide +kernel
theorem dX7_age_2 : decode cX7_age 2 = .ok (.getfield 48, 3) := by decide +kernel
theorem dX7_age_5 : decode cX7_age 5 = .ok (.iconst 1, 1) := by decide +kernel
theorem dX7_age_6 : decode cX7_age 6 = .ok (.iadd, 1) := by decide +kernel
theorem dX7_age_7 : decode cX7_age 7 = .ok (.putfield 48, 3) := by decide +kernel
theorem dX7_age_10 : decode cX7_age 10 = .ok (.aload_n 1, 1) := by decide +kernel
theorem dX7_age_11 : decode cX7_age 11 = .ok (.getfield 45, 3) := by decide +kernel
theorem dX7_age_14 : decode cX7_age 14 = .ok (.aload_n 1, 1) := by decide +kernel
theorem dX7_age_15 : decode cX7_age 15 = .ok (.getfield 55, 3) := by decide +kernel
theorem dX7_age_18 : decode cX7_age 18 = .ok (.dup2, 1) := by decide +kernel
theorem dX7_age_19 : decode cX7_age 19 = .ok (.iaload, 1) := by decide +kernel
theorem dX7_age_20 : decode cX7_age 20 = .ok (.iconst 1, 1) := by decide +kernel
theorem dX7_age_21 : decode cX7_age 21 = .ok (.iadd, 1) := by decide +kernel
theorem dX7_age_22 : decode cX7_age 22 = .ok (.iastore, 1) := by decide +kernel
theorem dX7_age_23 : decode cX7_age 23 = .ok (.aload_n 1, 1) := by decide +kernel
theorem dX7_age_24 : decode cX7_age 24 = .ok (.dup, 1) := by decide +kernel
theorem dX7_age_25 : decode cX7_age 25 = .ok (.getfield 118, 3) := by decide +kernel
theorem dX7_age_28 : decode cX7_age 28 = .ok (.iconst 1, 1) := by decide +kernel
theorem dX7_age_29 : decode cX7_age 29 = .ok (.iadd, 1) := by decide +kernel
theorem dX7_age_30 : decode cX7_age 30 = .ok (.putfield 118, 3) := by decide +kernel
theorem dX7_age_33 : decode cX7_age 33 = .ok (.return_, 1) := by decide +kernel
theorem dX7_turn_0 : decode cX7_turn 0 = .ok (.aload_n 1, 1) := by decide +kernel
theorem dX7_turn_1 : decode cX7_turn 1 = .ok (.getfield 118, 3) := by decide +kernel
theorem dX7_turn_4 : decode cX7_turn 4 = .ok (.aload_n 1, 1) := by decide +kernel
theorem dX7_turn_5 : decode cX7_turn 5 = .ok (.getfield 121, 3) := by decide +kernel
theorem dX7_turn_8 : decode cX7_turn 8 = .ok (.if_icmp .ge 4, 3) := by decide +kernel
theorem dX7_turn_11 : decode cX7_turn 11 = .ok (.return_, 1) := by decide +kernel
theorem dX7_turn_12 : decode cX7_turn 12 = .ok (.aload_n 0, 1) := by decide +kernel
theorem dX7_turn_13 : decode cX7_turn 13 = .ok (.getfield 12, 3) := by decide +kernel
theorem dX7_turn_16 : decode cX7_turn 16 = .ok (.getfield 124, 3) := by decide +kernel
theorem dX7_turn_19 : decode cX7_turn 19 = .ok (.invokevirtual 128, 3) := by decide +kernel
theorem dX7_turn_22 : decode cX7_turn 22 = .ok (.ifCond .eq 126, 3) := by decide +kernel
theorem dX7_turn_25 : decode cX7_turn 25 = .ok (.aload_n 0, 1) := by decide +kernel
theorem dX7_turn_26 : decode cX7_turn 26 = .ok (.getfield 20, 3) := by decide +kernel
theorem dX7_turn_29 : decode cX7_turn 29 = .ok (.iconst 0, 1) := by decide +kernel
theorem dX7_turn_30 : decode cX7_turn 30 = .ok (.aload_n 1, 1) := by decide +kernel
theorem dX7_turn_31 : decode cX7_turn 31 = .ok (.getfield 81, 3) := by decide +kernel
theorem dX7_turn_34 : decode cX7_turn 34 = .ok (.iastore, 1) := by decide +kernel
theorem dX7_turn_35 : decode cX7_turn 35 = .ok (.aload_n 0, 1) := by decide +kernel
theorem dX7_turn_36 : decode cX7_turn 36 = .ok (.getfield 20, 3) := by decide +kernel
theorem dX7_turn_39 : decode cX7_turn 39 = .ok (.iconst 1, 1) := by decide +kernel
theorem dX7_turn_40 : decode cX7_turn 40 = .ok (.aload_n 1, 1) := by decide +kernel
theorem dX7_turn_41 : decode cX7_turn 41 = .ok (.getfield 102, 3) := by decide +kernel
theorem dX7_turn_44 : decode cX7_turn 44 = .ok (.iastore, 1) := by decide +kernel
theorem dX7_turn_45 : decode cX7_turn 45 = .ok (.aload_n 0, 1) := by decide +kernel
theorem dX7_turn_46 : decode cX7_turn 46 = .ok (.getfield 20, 3) := by decide +kernel
theorem dX7_turn_49 : decode cX7_turn 49 = .ok (.iconst 2, 1) := by decide +kernel
theorem dX7_turn_50 : decode cX7_turn 50 = .ok (.aload_n 1, 1) := by decide +kernel
theorem dX7_turn_51 : decode cX7_turn 51 = .ok (.getfield 90, 3) := by decide +kernel
theorem dX7_turn_54 : decode cX7_turn 54 = .ok (.iastore, 1) := by decide +kernel
theorem dX7_turn_55 : decode cX7_turn 55 = .ok (.aload_n 0, 1) := by decide +kernel
theorem dX7_turn_56 : decode cX7_turn 56 = .ok (.getfield 20, 3) := by decide +kernel
theorem dX7_turn_59 : decode cX7_turn 59 = .ok (.iconst 3, 1) := by decide +kernel
theorem dX7_turn_60 : decode cX7_turn 60 = .ok (.aload_n 1, 1) := by decide +kernel
theorem dX7_turn_61 : decode cX7_turn 61 = .ok (.getfield 114, 3) := by decide +kernel
theorem dX7_turn_64 : decode cX7_turn 64 = .ok (.aload_n 1, 1) := by decide +kernel
theorem dX7_turn_65 : decode cX7_turn 65 = .ok (.getfield 55, 3) := by decide +kernel
theorem dX7_turn_68 : decode cX7_turn 68 = .ok (.iaload, 1) := by decide +kernel
theorem dX7_turn_69 : decode cX7_turn 69 = .ok (.iastore, 1) := by decide +kernel
theorem dX7_turn_70 : decode cX7_turn 70 = .ok (.aload_n 0, 1) := by decide +kernel
theorem dX7_turn_71 : decode cX7_turn 71 = .ok (.getfield 20, 3) := by decide +kernel
theorem dX7_turn_74 : decode cX7_turn 74 = .ok (.iconst 4, 1) := by decide +kernel
theorem dX7_turn_75 : decode cX7_turn 75 = .ok (.aload_n 1, 1) := by decide +kernel
theorem dX7_turn_76 : decode cX7_turn 76 = .ok (.getfield 48, 3) := by decide +kernel
theorem dX7_turn_79 : decode cX7_turn 79 = .ok (.iastore, 1) := by decide +kernel
theorem dX7_turn_80 : decode cX7_turn 80 = .ok (.aload_n 0, 1) := by decide +kernel
theorem dX7_turn_81 : decode cX7_turn 81 = .ok (.getfield 20, 3) := by decide +kernel
theorem dX7_turn_84 : decode cX7_turn 84 = .ok (.iconst 5, 1) := by decide +kernel
theorem dX7_turn_85 : decode cX7_turn 85 = .ok (.aload_n 0, 1) := by decide +kernel
theorem dX7_turn_86 : decode cX7_turn 86 = .ok (.getfield 12, 3) := by decide +kernel
theorem dX7_turn_89 : decode cX7_turn 89 = .ok (.getfield 124, 3) := by decide +kernel
theorem dX7_turn_92 : decode cX7_turn 92 = .ok (.getfield 132, 3) := by decide +kernel
theorem dX7_turn_95 : decode cX7_turn 95 = .ok (.ifCond .eq 19, 3) := by decide +kernel
theorem dX7_turn_98 : decode cX7_turn 98 = .ok (.aload_n 0, 1) := by decide +kernel
theorem dX7_turn_99 : decode cX7_turn 99 = .ok (.aload_n 0, 1) := by decide +kernel
theorem dX7_turn_100 : decode cX7_turn 100 = .ok (.aload_n 1, 1) := by decide +kernel
theorem dX7_turn_101 : decode cX7_turn 101 = .ok (.aload_n 1, 1) := by decide +kernel
theorem dX7_turn_102 : decode cX7_turn 102 = .ok (.getfield 55, 3) := by decide +kernel
theorem dX7_turn_105 : decode cX7_turn 105 = .ok (.invokevirtual 136, 3) := by decide +kernel
theorem dX7_turn_108 : decode cX7_turn 108 = .ok (.invokevirtual 139, 3) := by decide +kernel
theorem dX7_turn_111 : decode cX7_turn 111 = .ok (.goto 4, 3) := by decide +kernel
theorem dX7_turn_114 : decode cX7_turn 114 = .ok (.iconst 0, 1) := by decide +kernel
theorem dX7_turn_115 : decode cX7_turn 115 = .ok (.iastore, 1) := by decide +kernel
theorem dX7_turn_116 : decode cX7_turn 116 = .ok (.aload_n 0, 1) := by decide +kernel
theorem dX7_turn_117 : decode cX7_turn 117 = .ok (.getfield 12, 3) := by decide +kernel
theorem dX7_turn_120 : decode cX7_turn 120 = .ok (.getfield 124, 3) := by decide +kernel
theorem dX7_turn_123 : decode cX7_turn 123 = .ok (.aload_n 0, 1) := by decide +kernel
theorem dX7_turn_124 : decode cX7_turn 124 = .ok (.getfield 20, 3) := by decide +kernel
theorem dX7_turn_127 : decode cX7_turn 127 = .ok (.aload_n 0, 1) := by decide +kernel
theorem dX7_turn_128 : decode cX7_turn 128 = .ok (.getfield 27, 3) := by decide +kernel
theorem dX7_turn_131 : decode cX7_turn 131 = .ok (.invokevirtual 142, 3) := by decide +kernel
theorem dX7_turn_134 : decode cX7_turn 134 = .ok (.ifCond .le 14, 3) := by decide +kernel
theorem dX7_turn_137 : decode cX7_turn 137 = .ok (.aload_n 1, 1) := by decide +kernel
theorem dX7_turn_138 : decode cX7_turn 138 = .ok (.dup, 1) := by decide +kernel
theorem dX7_turn_139 : decode cX7_turn 139 = .ok (.getfield 146, 3) := by decide +kernel
theorem dX7_turn_142 : decode cX7_turn 142 = .ok (.iconst 1, 1) := by decide +kernel
theorem dX7_turn_143 : decode cX7_turn 143 = .ok (.iadd, 1) := by decide +kernel
theorem dX7_turn_144 : decode cX7_turn 144 = .ok (.putfield 146, 3) := by decide +kernel
theorem dX7_turn_147 : decode cX7_turn 147 = .ok (.return_, 1) := by decide +kernel
theorem dX7_turn_148 : decode cX7_turn 148 = .ok (.aload_n 1, 1) := by decide +kernel
theorem dX7_turn_149 : decode cX7_turn 149 = .ok (.invokevirtual 149, 3) := by decide +kernel
theorem dX7_turn_152 : decode cX7_turn 152 = .ok (.return_, 1) := by decide +kernel
theorem dX7_followers_0 : decode cX7_followers 0 = .ok (.iconst 0, 1) := by decide +kernel
theorem dX7_followers_1 : decode cX7_followers 1 = .ok (.istore_n 3, 1) := by decide +kernel
theorem dX7_followers_2 : decode cX7_followers 2 = .ok (.iconst 0, 1) := by decide +kernel
theorem dX7_followers_3 : decode cX7_followers 3 = .ok (.istore 4, 2) := by decide +kernel
theorem dX7_followers_5 : decode cX7_followers 5 = .ok (.iload 4, 2) := by decide +kernel
theorem dX7_followers_7 : decode cX7_followers 7 = .ok (.aload_n 0, 1) := by decide +kernel
theorem dX7_followers_8 : decode cX7_followers 8 = .ok (.getfield 12, 3) := by decide +kernel
theorem dX7_followers_11 : decode cX7_followers 11 = .ok (.getfield 152, 3) := by decide +kernel
theorem dX7_followers_14 : decode cX7_followers 14 = .ok (.if_icmp .ge 88, 3) := by decide +kernel
theorem dX7_followers_17 : decode cX7_followers 17 = .ok (.aload_n 0, 1) := by decide +kernel
theorem dX7_followers_18 : decode cX7_followers 18 = .ok (.getfield 12, 3) := by decide +kernel
theorem dX7_followers_21 : decode cX7_followers 21 = .ok (.getfield 155, 3) := by decide +kernel
theorem dX7_followers_24 : decode cX7_followers 24 = .ok (.invokevirtual 128, 3) := by decide +kernel
theorem dX7_followers_27 : decode cX7_followers 27 = .ok (.ifCond .eq 30, 3) := by decide +kernel
theorem dX7_followers_30 : decode cX7_followers 30 = .ok (.aload_n 0, 1) := by decide +kernel
theorem dX7_followers_31 : decode cX7_followers 31 = .ok (.aload_n 1, 1) := by decide +kernel
theorem dX7_followers_32 : decode cX7_followers 32 = .ok (.iload 4, 2) := by decide +kernel
theorem dX7_followers_34 : decode cX7_followers 34 = .ok (.iconst 1, 1) := by decide +kernel
theorem dX7_followers_35 : decode cX7_followers 35 = .ok (.invokevirtual 158, 3) := by decide +kernel
theorem dX7_followers_38 : decode cX7_followers 38 = .ok (.aload_n 0, 1) := by decide +kernel
theorem dX7_followers_39 : decode cX7_followers 39 = .ok (.aload_n 1, 1) := by decide +kernel
theorem dX7_followers_40 : decode cX7_followers 40 = .ok (.iload 4, 2) := by decide +kernel
theorem dX7_followers_42 : decode cX7_followers 42 = .ok (.iconst 0, 1) := by decide +kernel
theorem dX7_followers_43 : decode cX7_followers 43 = .ok (.invokevirtual 158, 3) := by decide +kernel
theorem dX7_followers_46 : decode cX7_followers 46 = .ok (.if_icmp .le 7, 3) := by decide +kernel
theorem dX7_followers_49 : decode cX7_followers 49 = .ok (.iconst 1, 1) := by decide +kernel
theorem dX7_followers_50 : decode cX7_followers 50 = .ok (.goto 22, 3) := by decide +kernel
theorem dX7_followers_53 : decode cX7_followers 53 = .ok (.iconst 0, 1) := by decide +kernel
theorem dX7_followers_54 : decode cX7_followers 54 = .ok (.goto 18, 3) := by decide +kernel
theorem dX7_followers_57 : decode cX7_followers 57 = .ok (.aload_n 1, 1) := by decide +kernel
theorem dX7_followers_58 : decode cX7_followers 58 = .ok (.getfield 162, 3) := by decide +kernel
theorem dX7_followers_61 : decode cX7_followers 61 = .ok (.iload 4, 2) := by decide +kernel
theorem dX7_followers_63 : decode cX7_followers 63 = .ok (.iaload, 1) := by decide +kernel
theorem dX7_followers_64 : decode cX7_followers 64 = .ok (.ifCond .le 7, 3) := by decide +kernel
theorem dX7_followers_67 : decode cX7_followers 67 = .ok (.iconst 1, 1) := by decide +kernel
theorem dX7_followers_68 : decode cX7_followers 68 = .ok (.goto 4, 3) := by decide +kernel
theorem dX7_followers_71 : decode cX7_followers 71 = .ok (.iconst 0, 1) := by decide +kernel
theorem dX7_followers_72 : decode cX7_followers 72 = .ok (.istore 5, 2) := by decide +kernel
theorem dX7_followers_74 : decode cX7_followers 74 = .ok (.iload 5, 2) := by decide +kernel
theorem dX7_followers_76 : decode cX7_followers 76 = .ok (.iload_n 2, 1) := by decide +kernel
theorem dX7_followers_77 : decode cX7_followers 77 = .ok (.iconst 1, 1) := by decide +kernel
theorem dX7_followers_78 : decode cX7_followers 78 = .ok (.if_icmp .ne 7, 3) := by decide +kernel
theorem dX7_followers_81 : decode cX7_followers 81 = .ok (.iconst 1, 1) := by decide +kernel
theorem dX7_followers_82 : decode cX7_followers 82 = .ok (.goto 4, 3) := by decide +kernel
theorem dX7_followers_85 : decode cX7_followers 85 = .ok (.iconst 0, 1) := by decide +kernel
theorem dX7_followers_86 : decode cX7_followers 86 = .ok (.if_icmp .ne 10, 3) := by decide +kernel
theorem dX7_followers_89 : decode cX7_followers 89 = .ok (.iload_n 3, 1) := by decide +kernel
theorem dX7_followers_90 : decode cX7_followers 90 = .ok (.iconst 1, 1) := by decide +kernel
theorem dX7_followers_91 : decode cX7_followers 91 = .ok (.iload 4, 2) := by decide +kernel
theorem dX7_followers_93 : decode cX7_followers 93 = .ok (.ishl, 1) := by decide +kernel
theorem dX7_followers_94 : decode cX7_followers 94 = .ok (.ior, 1) := by decide +kernel
theorem dX7_followers_95 : decode cX7_followers 95 = .ok (.istore_n 3, 1) := by decide +kernel
theorem dX7_followers_96 : decode cX7_followers 96 = .ok (.iinc 4 1, 3) := by decide +kernel
theorem dX7_followers_99 : decode cX7_followers 99 = .ok (.goto (-94), 3) := by decide +kernel
theorem dX7_followers_102 : decode cX7_followers 102 = .ok (.iload_n 3, 1) := by decide +kernel
theorem dX7_followers_103 : decode cX7_followers 103 = .ok (.ireturn, 1) := by decide +kernel
theorem dX7_liking_0 : decode cX7_liking 0 = .ok (.aload_n 0, 1) := by decide +kernel
theorem dX7_liking_1 : decode cX7_liking 1 = .ok (.getfield 24, 3) := by decide +kernel
theorem dX7_liking_4 : decode cX7_liking 4 = .ok (.iconst 0, 1) := by decide +kernel
theorem dX7_liking_5 : decode cX7_liking 5 = .ok (.aload_n 1, 1) := by decide +kernel
theorem dX7_liking_6 : decode cX7_liking 6 = .ok (.getfield 114, 3) := by decide +kernel
theorem dX7_liking_9 : decode cX7_liking 9 = .ok (.iload_n 3, 1) := by decide +kernel
theorem dX7_liking_10 : decode cX7_liking 10 = .ok (.iaload, 1) := by decide +kernel
theorem dX7_liking_11 : decode cX7_liking 11 = .ok (.iastore, 1) := by decide +kernel
theorem dX7_liking_12 : decode cX7_liking 12 = .ok (.aload_n 0, 1) := by decide +kernel
theorem dX7_liking_13 : decode cX7_liking 13 = .ok (.getfield 24, 3) := by decide +kernel
theorem dX7_liking_16 : decode cX7_liking 16 = .ok (.iconst 1, 1) := by decide +kernel
theorem dX7_liking_17 : decode cX7_liking 17 = .ok (.aload_n 1, 1) := by decide +kernel
theorem dX7_liking_18 : decode cX7_liking 18 = .ok (.getfield 55, 3) := by decide +kernel
theorem dX7_liking_21 : decode cX7_liking 21 = .ok (.iload_n 3, 1) := by decide +kernel
theorem dX7_liking_22 : decode cX7_liking 22 = .ok (.if_icmp .ne 7, 3) := by decide +kernel
theorem dX7_liking_25 : decode cX7_liking 25 = .ok (.iconst 1, 1) := by decide +kernel
theorem dX7_liking_26 : decode cX7_liking 26 = .ok (.goto 4, 3) := by decide +kernel
theorem dX7_liking_29 : decode cX7_liking 29 = .ok (.iconst 0, 1) := by decide +kernel
theorem dX7_liking_30 : decode cX7_liking 30 = .ok (.iastore, 1) := by decide +kernel
theorem dX7_liking_31 : decode cX7_liking 31 = .ok (.aload_n 0, 1) := by decide +kernel
theorem dX7_liking_32 : decode cX7_liking 32 = .ok (.getfield 24, 3) := by decide +kernel
theorem dX7_liking_35 : decode cX7_liking 35 = .ok (.iconst 2, 1) := by decide +kernel
theorem dX7_liking_36 : decode cX7_liking 36 = .ok (.iload_n 3, 1) := by decide +kernel
theorem dX7_liking_37 : decode cX7_liking 37 = .ok (.ifCond .ne 13, 3) := by decide +kernel
theorem dX7_liking_40 : decode cX7_liking 40 = .ok (.aload_n 1, 1) := by decide +kernel
theorem dX7_liking_41 : decode cX7_liking 41 = .ok (.getfield 162, 3) := by decide +kernel
theorem dX7_liking_44 : decode cX7_liking 44 = .ok (.iload_n 2, 1) := by decide +kernel
theorem dX7_liking_45 : decode cX7_liking 45 = .ok (.iaload, 1) := by decide +kernel
theorem dX7_liking_46 : decode cX7_liking 46 = .ok (.ineg, 1) := by decide +kernel
theorem dX7_liking_47 : decode cX7_liking 47 = .ok (.goto 9, 3) := by decide +kernel
theorem dX7_liking_50 : decode cX7_liking 50 = .ok (.aload_n 1, 1) := by decide +kernel
theorem dX7_liking_51 : decode cX7_liking 51 = .ok (.getfield 162, 3) := by decide +kernel
theorem dX7_liking_54 : decode cX7_liking 54 = .ok (.iload_n 2, 1) := by decide +kernel
theorem dX7_liking_55 : decode cX7_liking 55 = .ok (.iaload, 1) := by decide +kernel
theorem dX7_liking_56 : decode cX7_liking 56 = .ok (.iastore, 1) := by decide +kernel
theorem dX7_liking_57 : decode cX7_liking 57 = .ok (.aload_n 0, 1) := by decide +kernel
theorem dX7_liking_58 : decode cX7_liking 58 = .ok (.getfield 24, 3) := by decide +kernel
theorem dX7_liking_61 : decode cX7_liking 61 = .ok (.iconst 3, 1) := by decide +kernel
theorem dX7_liking_62 : decode cX7_liking 62 = .ok (.aload_n 1, 1) := by decide +kernel
theorem dX7_liking_63 : decode cX7_liking 63 = .ok (.getfield 81, 3) := by decide +kernel
theorem dX7_liking_66 : decode cX7_liking 66 = .ok (.iastore, 1) := by decide +kernel
theorem dX7_liking_67 : decode cX7_liking 67 = .ok (.aload_n 0, 1) := by decide +kernel
theorem dX7_liking_68 : decode cX7_liking 68 = .ok (.getfield 24, 3) := by decide +kernel
theorem dX7_liking_71 : decode cX7_liking 71 = .ok (.iconst 4, 1) := by decide +kernel
theorem dX7_liking_72 : decode cX7_liking 72 = .ok (.aload_n 1, 1) := by decide +kernel
theorem dX7_liking_73 : decode cX7_liking 73 = .ok (.getfield 90, 3) := by decide +kernel
theorem dX7_liking_76 : decode cX7_liking 76 = .ok (.iastore, 1) := by decide +kernel
theorem dX7_liking_77 : decode cX7_liking 77 = .ok (.aload_n 0, 1) := by decide +kernel
theorem dX7_liking_78 : decode cX7_liking 78 = .ok (.getfield 12, 3) := by decide +kernel
theorem dX7_liking_81 : decode cX7_liking 81 = .ok (.getfield 155, 3) := by decide +kernel
theorem dX7_liking_84 : decode cX7_liking 84 = .ok (.aload_n 0, 1) := by decide +kernel
theorem dX7_liking_85 : decode cX7_liking 85 = .ok (.getfield 24, 3) := by decide +kernel
theorem dX7_liking_88 : decode cX7_liking 88 = .ok (.aload_n 0, 1) := by decide +kernel
theorem dX7_liking_89 : decode cX7_liking 89 = .ok (.getfield 27, 3) := by decide +kernel
theorem dX7_liking_92 : decode cX7_liking 92 = .ok (.invokevirtual 142, 3) := by decide +kernel
theorem dX7_liking_95 : decode cX7_liking 95 = .ok (.ireturn, 1) := by decide +kernel
theorem dX7_menOf_0 : decode cX7_menOf 0 = .ok (.iconst 0, 1) := by decide +kernel
theorem dX7_menOf_1 : decode cX7_menOf 1 = .ok (.istore_n 2, 1) := by decide +kernel
theorem dX7_menOf_2 : decode cX7_menOf 2 = .ok (.iconst 0, 1) := by decide +kernel
theorem dX7_menOf_3 : decode cX7_menOf 3 = .ok (.istore_n 3, 1) := by decide +kernel
theorem dX7_menOf_4 : decode cX7_menOf 4 = .ok (.iload_n 3, 1) := by decide +kernel
theorem dX7_menOf_5 : decode cX7_menOf 5 = .ok (.aload_n 0, 1) := by decide +kernel
theorem dX7_menOf_6 : decode cX7_menOf 6 = .ok (.getfield 12, 3) := by decide +kernel
theorem dX7_menOf_9 : decode cX7_menOf 9 = .ok (.getfield 152, 3) := by decide +kernel
theorem dX7_menOf_12 : decode cX7_menOf 12 = .ok (.if_icmp .ge 29, 3) := by decide +kernel
theorem dX7_menOf_15 : decode cX7_menOf 15 = .ok (.iload_n 1, 1) := by decide +kernel
theorem dX7_menOf_16 : decode cX7_menOf 16 = .ok (.iload_n 3, 1) := by decide +kernel
theorem dX7_menOf_17 : decode cX7_menOf 17 = .ok (.ishr, 1) := by decide +kernel
theorem dX7_menOf_18 : decode cX7_menOf 18 = .ok (.iconst 1, 1) := by decide +kernel
theorem dX7_menOf_19 : decode cX7_menOf 19 = .ok (.iand, 1) := by decide +kernel
theorem dX7_menOf_20 : decode cX7_menOf 20 = .ok (.ifCond .eq 15, 3) := by decide +kernel
theorem dX7_menOf_23 : decode cX7_menOf 23 = .ok (.iload_n 2, 1) := by decide +kernel
theorem dX7_menOf_24 : decode cX7_menOf 24 = .ok (.aload_n 0, 1) := by decide +kernel
theorem dX7_menOf_25 : decode cX7_menOf 25 = .ok (.getfield 12, 3) := by decide +kernel
theorem dX7_menOf_28 : decode cX7_menOf 28 = .ok (.getfield 165, 3) := by decide +kernel
theorem dX7_menOf_31 : decode cX7_menOf 31 = .ok (.iload_n 3, 1) := by decide +kernel
theorem dX7_menOf_32 : decode cX7_menOf 32 = .ok (.iaload, 1) := by decide +kernel
theorem dX7_menOf_33 : decode cX7_menOf 33 = .ok (.iadd, 1) := by decide +kernel
theorem dX7_menOf_34 : decode cX7_menOf 34 = .ok (.istore_n 2, 1) := by decide +kernel
theorem dX7_menOf_35 : decode cX7_menOf 35 = .ok (.iinc 3 1, 3) := by decide +kernel
theorem dX7_menOf_38 : decode cX7_menOf 38 = .ok (.goto (-34), 3) := by decide +kernel
theorem dX7_menOf_41 : decode cX7_menOf 41 = .ok (.iload_n 2, 1) := by decide +kernel
theorem dX7_menOf_42 : decode cX7_menOf 42 = .ok (.ireturn, 1) := by decide +kernel
theorem dX8_init_0 : decode cX8_init 0 = .ok (.aload_n 0, 1) := by decide +kernel
theorem dX8_init_1 : decode cX8_init 1 = .ok (.invokespecial 1, 3) := by decide +kernel
theorem dX8_init_4 : decode cX8_init 4 = .ok (.aload_n 0, 1) := by decide +kernel
theorem dX8_init_5 : decode cX8_init 5 = .ok (.iconst 0, 1) := by decide +kernel
theorem dX8_init_6 : decode cX8_init 6 = .ok (.putfield 7, 3) := by decide +kernel
theorem dX8_init_9 : decode cX8_init 9 = .ok (.aload_n 0, 1) := by decide +kernel
theorem dX8_init_10 : decode cX8_init 10 = .ok (.iconst 0, 1) := by decide +kernel
theorem dX8_init_11 : decode cX8_init 11 = .ok (.putfield 13, 3) := by decide +kernel
theorem dX8_init_14 : decode cX8_init 14 = .ok (.aload_n 0, 1) := by decide +kernel
theorem dX8_init_15 : decode cX8_init 15 = .ok (.iconst 0, 1) := by decide +kernel
theorem dX8_init_16 : decode cX8_init 16 = .ok (.putfield 16, 3) := by decide +kernel
theorem dX8_init_19 : decode cX8_init 19 = .ok (.aload_n 0, 1) := by decide +kernel
theorem dX8_init_20 : decode cX8_init 20 = .ok (.aload_n 1, 1) := by decide +kernel
theorem dX8_init_21 : decode cX8_init 21 = .ok (.putfield 20, 3) := by decide +kernel
theorem dX8_init_24 : decode cX8_init 24 = .ok (.return_, 1) := by decide +kernel
theorem dX8_begin_0 : decode cX8_begin 0 = .ok (.aload_n 0, 1) := by decide +kernel
theorem dX8_begin_1 : decode cX8_begin 1 = .ok (.iload_n 1, 1) := by decide +kernel
theorem dX8_begin_2 : decode cX8_begin 2 = .ok (.putfield 7, 3) := by decide +kernel
theorem dX8_begin_5 : decode cX8_begin 5 = .ok (.aload_n 0, 1) := by decide +kernel
theorem dX8_begin_6 : decode cX8_begin 6 = .ok (.iload_n 1, 1) := by decide +kernel
theorem dX8_begin_7 : decode cX8_begin 7 = .ok (.putfield 13, 3) := by decide +kernel
theorem dX8_begin_10 : decode cX8_begin 10 = .ok (.aload_n 0, 1) := by decide +kernel
theorem dX8_begin_11 : decode cX8_begin 11 = .ok (.iconst 0, 1) := by decide +kernel
theorem dX8_begin_12 : decode cX8_begin 12 = .ok (.putfield 16, 3) := by decide +kernel
theorem dX8_begin_15 : decode cX8_begin 15 = .ok (.return_, 1) := by decide +kernel
theorem dX8_isTold_0 : decode cX8_isTold 0 = .ok (.aload_n 0, 1) := by decide +kernel
theorem dX8_isTold_1 : decode cX8_isTold 1 = .ok (.getfield 13, 3) := by decide +kernel
theorem dX8_isTold_4 : decode cX8_isTold 4 = .ok (.aload_n 0, 1) := by decide +kernel
theorem dX8_isTold_5 : decode cX8_isTold 5 = .ok (.getfield 7, 3) := by decide +kernel
theorem dX8_isTold_8 : decode cX8_isTold 8 = .ok (.if_icmp .le 7, 3) := by decide +kernel
theorem dX8_isTold_11 : decode cX8_isTold 11 = .ok (.iconst 1, 1) := by decide +kernel
theorem dX8_isTold_12 : decode cX8_isTold 12 = .ok (.goto 4, 3) := by decide +kernel
theorem dX8_isTold_15 : decode cX8_isTold 15 = .ok (.iconst 0, 1) := by decide +kernel
theorem dX8_isTold_16 : decode cX8_isTold 16 = .ok (.ireturn, 1) := by decide +kernel
theorem dX8_append_0 : decode cX8_append 0 = .ok (.aload_n 0, 1) := by decide +kernel
theorem dX8_append_1 : decode cX8_append 1 = .ok (.getfield 13, 3) := by decide +kernel
theorem dX8_append_4 : decode cX8_append 4 = .ok (.aload_n 0, 1) := by decide +kernel
theorem dX8_append_5 : decode cX8_append 5 = .ok (.getfield 20, 3) := by decide +kernel
theorem dX8_append_8 : decode cX8_append 8 = .ok (.arraylength, 1) := by decide +kernel
theorem dX8_append_9 : decode cX8_append 9 = .ok (.if_icmp .ge 23, 3) := by decide +kernel
theorem dX8_append_12 : decode cX8_append 12 = .ok (.aload_n 0, 1) := by decide +kernel
theorem dX8_append_13 : decode cX8_append 13 = .ok (.getfield 20, 3) := by decide +kernel
theorem dX8_append_16 : decode cX8_append 16 = .ok (.aload_n 0, 1) := by decide +kernel
theorem dX8_append_17 : decode cX8_append 17 = .ok (.getfield 13, 3) := by decide +kernel
theorem dX8_append_20 : decode cX8_append 20 = .ok (.iload_n 1, 1) := by decide +kernel
theorem dX8_append_21 : decode cX8_append 21 = .ok (.iastore, 1) := by decide +kernel
theorem dX8_append_22 : decode cX8_append 22 = .ok (.aload_n 0, 1) := by decide +kernel
theorem dX8_append_23 : decode cX8_append 23 = .ok (.dup, 1) := by decide +kernel
theorem dX8_append_24 : decode cX8_append 24 = .ok (.getfield 13, 3) := by decide +kernel
theorem dX8_append_27 : decode cX8_append 27 = .ok (.iconst 1, 1) := by decide +kernel
theorem dX8_append_28 : decode cX8_append 28 = .ok (.iadd, 1) := by decide +kernel
theorem dX8_append_29 : decode cX8_append 29 = .ok (.putfield 13, 3) := by decide +kernel
theorem dX8_append_32 : decode cX8_append 32 = .ok (.return_, 1) := by decide +kernel
theorem dX8_evaluate_0 : decode cX8_evaluate 0 = .ok (.iconst 0, 1) := by decide +kernel
theorem dX8_evaluate_1 : decode cX8_evaluate 1 = .ok (.istore_n 3, 1) := by decide +kernel
theorem dX8_evaluate_2 : decode cX8_evaluate 2 = .ok (.aload_n 0, 1) := by decide +kernel
theorem dX8_evaluate_3 : decode cX8_evaluate 3 = .ok (.getfield 7, 3) := by decide +kernel
theorem dX8_evaluate_6 : decode cX8_evaluate 6 = .ok (.istore 4, 2) := by decide +kernel
theorem dX8_evaluate_8 : decode cX8_evaluate 8 = .ok (.iload 4, 2) := by decide +kernel
theorem dX8_evaluate_10 : decode cX8_evaluate 10 = .ok (.aload_n 0, 1) := by decide +kernel
theorem dX8_evaluate_11 : decode cX8_evaluate 11 = .ok (.getfield 13, 3) := by decide +kernel
theorem dX8_evaluate_14 : decode cX8_evaluate 14 = .ok (.if_icmp .ge 291, 3) := by decide +kernel
theorem dX8_evaluate_17 : decode cX8_evaluate 17 = .ok (.aload_n 0, 1) := by decide +kernel
theorem dX8_evaluate_18 : decode cX8_evaluate 18 = .ok (.getfield 20, 3) := by decide +kernel
theorem dX8_evaluate_21 : decode cX8_evaluate 21 = .ok (.iload 4, 2) := by decide +kernel
theorem dX8_evaluate_23 : decode cX8_evaluate 23 = .ok (.iaload, 1) := by decide +kernel
theorem dX8_evaluate_24 : decode cX8_evaluate 24 = .ok (.istore 5, 2) := by decide +kernel
theorem dX8_evaluate_26 : decode cX8_evaluate 26 = .ok (.iload 5, 2) := by decide +kernel
theorem dX8_evaluate_28 : decode cX8_evaluate 28 = .ok (.bipush (-6), 2) := by decide +kernel
theorem dX8_evaluate_30 : decode cX8_evaluate 30 = .ok (.if_icmp .lt 36, 3) := by decide +kernel
theorem dX8_evaluate_33 : decode cX8_evaluate 33 = .ok (.iload_n 3, 1) := by decide +kernel
theorem dX8_evaluate_34 : decode cX8_evaluate 34 = .ok (.aload_n 2, 1) := by decide +kernel
theorem dX8_evaluate_35 : decode cX8_evaluate 35 = .ok (.arraylength, 1) := by decide +kernel
theorem dX8_evaluate_36 : decode cX8_evaluate 36 = .ok (.if_icmp .lt 5, 3) := by decide +kernel
theorem dX8_evaluate_39 : decode cX8_evaluate 39 = .ok (.iconst 0, 1) := by decide +kernel
theorem dX8_evaluate_40 : decode cX8_evaluate 40 = .ok (.ireturn, 1) := by decide +kernel
theorem dX8_evaluate_41 : decode cX8_evaluate 41 = .ok (.aload_n 2, 1) := by decide +kernel
theorem dX8_evaluate_42 : decode cX8_evaluate 42 = .ok (.iload_n 3, 1) := by decide +kernel
theorem dX8_evaluate_43 : decode cX8_evaluate 43 = .ok (.iload 5, 2) := by decide +kernel
theorem dX8_evaluate_45 : decode cX8_evaluate 45 = .ok (.ifCond .lt 8, 3) := by decide +kernel
theorem dX8_evaluate_48 : decode cX8_evaluate 48 = .ok (.iload 5, 2) := by decide +kernel
theorem dX8_evaluate_50 : decode cX8_evaluate 50 = .ok (.goto 9, 3) := by decide +kernel
theorem dX8_evaluate_53 : decode cX8_evaluate 53 = .ok (.aload_n 1, 1) := by decide +kernel
theorem dX8_evaluate_54 : decode cX8_evaluate 54 = .ok (.iconst (-1), 1) := by decide +kernel
theorem dX8_evaluate_55 : decode cX8_evaluate 55 = .ok (.iload 5, 2) := by decide +kernel
theorem dX8_evaluate_57 : decode cX8_evaluate 57 = .ok (.isub, 1) := by decide +kernel
theorem dX8_evaluate_58 : decode cX8_evaluate 58 = .ok (.iaload, 1) := by decide +kernel
theorem dX8_evaluate_59 : decode cX8_evaluate 59 = .ok (.iastore, 1) := by decide +kernel
theorem dX8_evaluate_60 : decode cX8_evaluate 60 = .ok (.iinc 3 1, 3) := by decide +kernel
theorem dX8_evaluate_63 : decode cX8_evaluate 63 = .ok (.goto 236, 3) := by decide +kernel
theorem dX8_evaluate_66 : decode cX8_evaluate 66 = .ok (.iload 5, 2) := by decide +kernel
theorem dX8_evaluate_68 : decode cX8_evaluate 68 = .ok (.bipush (-7), 2) := by decide +kernel
theorem dX8_evaluate_70 : decode cX8_evaluate 70 = .ok (.if_icmp .ne 31, 3) := by decide +kernel
theorem dX8_evaluate_73 : decode cX8_evaluate 73 = .ok (.iload_n 3, 1) := by decide +kernel
theorem dX8_evaluate_74 : decode cX8_evaluate 74 = .ok (.iconst 1, 1) := by decide +kernel
theorem dX8_evaluate_75 : decode cX8_evaluate 75 = .ok (.if_icmp .ge 5, 3) := by decide +kernel
theorem dX8_evaluate_78 : decode cX8_evaluate 78 = .ok (.iconst 0, 1) := by decide +kernel
theorem dX8_evaluate_79 : decode cX8_evaluate 79 = .ok (.ireturn, 1) := by decide +kernel
theorem dX8_evaluate_80 : decode cX8_evaluate 80 = .ok (.aload_n 2, 1) := by decide +kernel
theorem dX8_evaluate_81 : decode cX8_evaluate 81 = .ok (.iload_n 3, 1) := by decide +kernel
theorem dX8_evaluate_82 : decode cX8_evaluate 82 = .ok (.iconst 1, 1) := by decide +kernel
theorem dX8_evaluate_83 : decode cX8_evaluate 83 = .ok (.isub, 1) := by decide +kernel
theorem dX8_evaluate_84 : decode cX8_evaluate 84 = .ok (.aload_n 2, 1) := by decide +kernel
theorem dX8_evaluate_85 : decode cX8_evaluate 85 = .ok (.iload_n 3, 1) := by decide +kernel
theorem dX8_evaluate_86 : decode cX8_evaluate 86 = .ok (.iconst 1, 1) := by decide +kernel
theorem dX8_evaluate_87 : decode cX8_evaluate 87 = .ok (.isub, 1) := by decide +kernel
theorem dX8_evaluate_88 : decode cX8_evaluate 88 = .ok (.iaload, 1) := by decide +kernel
theorem dX8_evaluate_89 : decode cX8_evaluate 89 = .ok (.ifCond .ne 7, 3) := by decide +kernel
theorem dX8_evaluate_92 : decode cX8_evaluate 92 = .ok (.iconst 1, 1) := by decide +kernel
theorem dX8_evaluate_93 : decode cX8_evaluate 93 = .ok (.goto 4, 3) := by decide +kernel
theorem dX8_evaluate_96 : decode cX8_evaluate 96 = .ok (.iconst 0, 1) := by decide +kernel
theorem dX8_evaluate_97 : decode cX8_evaluate 97 = .ok (.iastore, 1) := by decide +kernel
theorem dX8_evaluate_98 : decode cX8_evaluate 98 = .ok (.goto 201, 3) := by decide +kernel
theorem dX8_evaluate_101 : decode cX8_evaluate 101 = .ok (.iload_n 3, 1) := by decide +kernel
theorem dX8_evaluate_102 : decode cX8_evaluate 102 = .ok (.iconst 2, 1) := by decide +kernel
theorem dX8_evaluate_103 : decode cX8_evaluate 103 = .ok (.if_icmp .ge 5, 3) := by decide +kernel
theorem dX8_evaluate_106 : decode cX8_evaluate 106 = .ok (.iconst 0, 1) := by decide +kernel
theorem dX8_evaluate_107 : decode cX8_evaluate 107 = .ok (.ireturn, 1) := by decide +kernel
theorem dX8_evaluate_108 : decode cX8_evaluate 108 = .ok (.iinc 3 (-1), 3) := by decide +kernel
theorem dX8_evaluate_111 : decode cX8_evaluate 111 = .ok (.aload_n 2, 1) := by decide +kernel
theorem dX8_evaluate_112 : decode cX8_evaluate 112 = .ok (.iload_n 3, 1) := by decide +kernel
theorem dX8_evaluate_113 : decode cX8_evaluate 113 = .ok (.iconst 1, 1) := by decide +kernel
theorem dX8_evaluate_114 : decode cX8_evaluate 114 = .ok (.isub, 1) := by decide +kernel
theorem dX8_evaluate_115 : decode cX8_evaluate 115 = .ok (.iaload, 1) := by decide +kernel
theorem dX8_evaluate_116 : decode cX8_evaluate 116 = .ok (.istore 6, 2) := by decide +kernel
theorem dX8_evaluate_118 : decode cX8_evaluate 118 = .ok (.aload_n 2, 1) := by decide +kernel
theorem dX8_evaluate_119 : decode cX8_evaluate 119 = .ok (.iload_n 3, 1) := by decide +kernel
theorem dX8_evaluate_120 : decode cX8_evaluate 120 = .ok (.iaload, 1) := by decide +kernel
theorem dX8_evaluate_121 : decode cX8_evaluate 121 = .ok (.istore 7, 2) := by decide +kernel
theorem dX8_evaluate_123 : decode cX8_evaluate 123 = .ok (.iconst 0, 1) := by decide +kernel
theorem dX8_evaluate_124 : decode cX8_evaluate 124 = .ok (.istore 8, 2) := by decide +kernel
theorem dX8_evaluate_126 : decode cX8_evaluate 126 = .ok (.iload 5, 2) := by decide +kernel
theorem dX8_evaluate_128 : decode cX8_evaluate 128 = .ok (.tableswitch 148 (-14) (-8) #[138, 128, 118, 101, 84, 64, 44], 44) := by decide +kernel
theorem dX8_evaluate_172 : decode cX8_evaluate 172 = .ok (.iload 6, 2) := by decide +kernel
theorem dX8_evaluate_174 : decode cX8_evaluate 174 = .ok (.ifCond .ne 8, 3) := by decide +kernel
theorem dX8_evaluate_177 : decode cX8_evaluate 177 = .ok (.iload 7, 2) := by decide +kernel
theorem dX8_evaluate_179 : decode cX8_evaluate 179 = .ok (.ifCond .eq 7, 3) := by decide +kernel
theorem dX8_evaluate_182 : decode cX8_evaluate 182 = .ok (.iconst 1, 1) := by decide +kernel
theorem dX8_evaluate_183 : decode cX8_evaluate 183 = .ok (.goto 4, 3) := by decide +kernel
theorem dX8_evaluate_186 : decode cX8_evaluate 186 = .ok (.iconst 0, 1) := by decide +kernel
theorem dX8_evaluate_187 : decode cX8_evaluate 187 = .ok (.istore 8, 2) := by decide +kernel
theorem dX8_evaluate_189 : decode cX8_evaluate 189 = .ok (.goto 103, 3) := by decide +kernel
theorem dX8_evaluate_192 : decode cX8_evaluate 192 = .ok (.iload 6, 2) := by decide +kernel
theorem dX8_evaluate_194 : decode cX8_evaluate 194 = .ok (.ifCond .eq 12, 3) := by decide +kernel
theorem dX8_evaluate_197 : decode cX8_evaluate 197 = .ok (.iload 7, 2) := by decide +kernel
theorem dX8_evaluate_199 : decode cX8_evaluate 199 = .ok (.ifCond .eq 7, 3) := by decide +kernel
theorem dX8_evaluate_202 : decode cX8_evaluate 202 = .ok (.iconst 1, 1) := by decide +kernel
theorem dX8_evaluate_203 : decode cX8_evaluate 203 = .ok (.goto 4, 3) := by decide +kernel
theorem dX8_evaluate_206 : decode cX8_evaluate 206 = .ok (.iconst 0, 1) := by decide +kernel
theorem dX8_evaluate_207 : decode cX8_evaluate 207 = .ok (.istore 8, 2) := by decide +kernel
theorem dX8_evaluate_209 : decode cX8_evaluate 209 = .ok (.goto 83, 3) := by decide +kernel
theorem dX8_evaluate_212 : decode cX8_evaluate 212 = .ok (.iload 6, 2) := by decide +kernel
theorem dX8_evaluate_214 : decode cX8_evaluate 214 = .ok (.iload 7, 2) := by decide +kernel
theorem dX8_evaluate_216 : decode cX8_evaluate 216 = .ok (.if_icmp .ge 7, 3) := by decide +kernel
theorem dX8_evaluate_219 : decode cX8_evaluate 219 = .ok (.iconst 1, 1) := by decide +kernel
theorem dX8_evaluate_220 : decode cX8_evaluate 220 = .ok (.goto 4, 3) := by decide +kernel
theorem dX8_evaluate_223 : decode cX8_evaluate 223 = .ok (.iconst 0, 1) := by decide +kernel
theorem dX8_evaluate_224 : decode cX8_evaluate 224 = .ok (.istore 8, 2) := by decide +kernel
theorem dX8_evaluate_226 : decode cX8_evaluate 226 = .ok (.goto 66, 3) := by decide +kernel
theorem dX8_evaluate_229 : decode cX8_evaluate 229 = .ok (.iload 6, 2) := by decide +kernel
theorem dX8_evaluate_231 : decode cX8_evaluate 231 = .ok (.iload 7, 2) := by decide +kernel
theorem dX8_evaluate_233 : decode cX8_evaluate 233 = .ok (.if_icmp .ne 7, 3) := by decide +kernel
theorem dX8_evaluate_236 : decode cX8_evaluate 236 = .ok (.iconst 1, 1) := by decide +kernel
theorem dX8_evaluate_237 : decode cX8_evaluate 237 = .ok (.goto 4, 3) := by decide +kernel
theorem dX8_evaluate_240 : decode cX8_evaluate 240 = .ok (.iconst 0, 1) := by decide +kernel
theorem dX8_evaluate_241 : decode cX8_evaluate 241 = .ok (.istore 8, 2) := by decide +kernel
theorem dX8_evaluate_243 : decode cX8_evaluate 243 = .ok (.goto 49, 3) := by decide +kernel
theorem dX8_evaluate_246 : decode cX8_evaluate 246 = .ok (.iload 6, 2) := by decide +kernel
theorem dX8_evaluate_248 : decode cX8_evaluate 248 = .ok (.iload 7, 2) := by decide +kernel
theorem dX8_evaluate_250 : decode cX8_evaluate 250 = .ok (.iadd, 1) := by decide +kernel
theorem dX8_evaluate_251 : decode cX8_evaluate 251 = .ok (.istore 8, 2) := by decide +kernel
theorem dX8_evaluate_253 : decode cX8_evaluate 253 = .ok (.goto 39, 3) := by decide +kernel
theorem dX8_evaluate_256 : decode cX8_evaluate 256 = .ok (.iload 6, 2) := by decide +kernel
theorem dX8_evaluate_258 : decode cX8_evaluate 258 = .ok (.iload 7, 2) := by decide +kernel
theorem dX8_evaluate_260 : decode cX8_evaluate 260 = .ok (.isub, 1) := by decide +kernel
theorem dX8_evaluate_261 : decode cX8_evaluate 261 = .ok (.istore 8, 2) := by decide +kernel
theorem dX8_evaluate_263 : decode cX8_evaluate 263 = .ok (.goto 29, 3) := by decide +kernel
theorem dX8_evaluate_266 : decode cX8_evaluate 266 = .ok (.iload 6, 2) := by decide +kernel
theorem dX8_evaluate_268 : decode cX8_evaluate 268 = .ok (.iload 7, 2) := by decide +kernel
theorem dX8_evaluate_270 : decode cX8_evaluate 270 = .ok (.imul, 1) := by decide +kernel
theorem dX8_evaluate_271 : decode cX8_evaluate 271 = .ok (.istore 8, 2) := by decide +kernel
theorem dX8_evaluate_273 : decode cX8_evaluate 273 = .ok (.goto 19, 3) := by decide +kernel
theorem dX8_evaluate_276 : decode cX8_evaluate 276 = .ok (.iload 7, 2) := by decide +kernel
theorem dX8_evaluate_278 : decode cX8_evaluate 278 = .ok (.ifCond .ne 7, 3) := by decide +kernel
theorem dX8_evaluate_281 : decode cX8_evaluate 281 = .ok (.iconst 0, 1) := by decide +kernel
theorem dX8_evaluate_282 : decode cX8_evaluate 282 = .ok (.goto 8, 3) := by decide +kernel
theorem dX8_evaluate_285 : decode cX8_evaluate 285 = .ok (.iload 6, 2) := by decide +kernel
theorem dX8_evaluate_287 : decode cX8_evaluate 287 = .ok (.iload 7, 2) := by decide +kernel
theorem dX8_evaluate_289 : decode cX8_evaluate 289 = .ok (.idiv, 1) := by decide +kernel
theorem dX8_evaluate_290 : decode cX8_evaluate 290 = .ok (.istore 8, 2) := by decide +kernel
theorem dX8_evaluate_292 : decode cX8_evaluate 292 = .ok (.aload_n 2, 1) := by decide +kernel
theorem dX8_evaluate_293 : decode cX8_evaluate 293 = .ok (.iload_n 3, 1) := by decide +kernel
theorem dX8_evaluate_294 : decode cX8_evaluate 294 = .ok (.iconst 1, 1) := by decide +kernel
theorem dX8_evaluate_295 : decode cX8_evaluate 295 = .ok (.isub, 1) := by decide +kernel
theorem dX8_evaluate_296 : decode cX8_evaluate 296 = .ok (.iload 8, 2) := by decide +kernel
theorem dX8_evaluate_298 : decode cX8_evaluate 298 = .ok (.iastore, 1) := by decide +kernel
theorem dX8_evaluate_299 : decode cX8_evaluate 299 = .ok (.iinc 4 1, 3) := by decide +kernel
theorem dX8_evaluate_302 : decode cX8_evaluate 302 = .ok (.goto (-294), 3) := by decide +kernel
theorem dX8_evaluate_305 : decode cX8_evaluate 305 = .ok (.iload_n 3, 1) := by decide +kernel
theorem dX8_evaluate_306 : decode cX8_evaluate 306 = .ok (.ifCond .le 9, 3) := by decide +kernel
theorem dX8_evaluate_309 : decode cX8_evaluate 309 = .ok (.aload_n 2, 1) := by decide +kernel
theorem dX8_evaluate_310 : decode cX8_evaluate 310 = .ok (.iconst 0, 1) := by decide +kernel
theorem dX8_evaluate_311 : decode cX8_evaluate 311 = .ok (.iaload, 1) := by decide +kernel
theorem dX8_evaluate_312 : decode cX8_evaluate 312 = .ok (.goto 4, 3) := by decide +kernel
theorem dX8_evaluate_315 : decode cX8_evaluate 315 = .ok (.iconst 0, 1) := by decide +kernel
theorem dX8_evaluate_316 : decode cX8_evaluate 316 = .ok (.ireturn, 1) := by decide +kernel
theorem dX9_init_0 : decode cX9_init 0 = .ok (.aload_n 0, 1) := by decide +kernel
theorem dX9_init_1 : decode cX9_init 1 = .ok (.invokespecial 3, 3) := by decide +kernel
theorem dX9_init_4 : decode cX9_init 4 = .ok (.aload_n 0, 1) := by decide +kernel
theorem dX9_init_5 : decode cX9_init 5 = .ok (.iconst 0, 1) := by decide +kernel
theorem dX9_init_6 : decode cX9_init 6 = .ok (.putfield 9, 3) := by decide +kernel
theorem dX9_init_9 : decode cX9_init 9 = .ok (.aload_n 0, 1) := by decide +kernel
theorem dX9_init_10 : decode cX9_init 10 = .ok (.bipush 8, 2) := by decide +kernel
theorem dX9_init_12 : decode cX9_init 12 = .ok (.newarray .int, 2) := by decide +kernel
theorem dX9_init_14 : decode cX9_init 14 = .ok (.putfield 15, 3) := by decide +kernel
theorem dX9_init_17 : decode cX9_init 17 = .ok (.aload_n 0, 1) := by decide +kernel
theorem dX9_init_18 : decode cX9_init 18 = .ok (.bipush 8, 2) := by decide +kernel
theorem dX9_init_20 : decode cX9_init 20 = .ok (.newarray .int, 2) := by decide +kernel
theorem dX9_init_22 : decode cX9_init 22 = .ok (.putfield 19, 3) := by decide +kernel
theorem dX9_init_25 : decode cX9_init 25 = .ok (.return_, 1) := by decide +kernel
theorem dX9_add_0 : decode cX9_add 0 = .ok (.aload_n 0, 1) := by decide +kernel
theorem dX9_add_1 : decode cX9_add 1 = .ok (.getfield 9, 3) := by decide +kernel
theorem dX9_add_4 : decode cX9_add 4 = .ok (.bipush 8, 2) := by decide +kernel
theorem dX9_add_6 : decode cX9_add 6 = .ok (.if_icmp .lt 5, 3) := by decide +kernel
theorem dX9_add_9 : decode cX9_add 9 = .ok (.iconst 0, 1) := by decide +kernel
theorem dX9_add_10 : decode cX9_add 10 = .ok (.ireturn, 1) := by decide +kernel
theorem dX9_add_11 : decode cX9_add 11 = .ok (.aload_n 0, 1) := by decide +kernel
theorem dX9_add_12 : decode cX9_add 12 = .ok (.getfield 15, 3) := by decide +kernel
theorem dX9_add_15 : decode cX9_add 15 = .ok (.aload_n 0, 1) := by decide +kernel
theorem dX9_add_16 : decode cX9_add 16 = .ok (.getfield 9, 3) := by decide +kernel
theorem dX9_add_19 : decode cX9_add 19 = .ok (.iload_n 1, 1) := by decide +kernel
theorem dX9_add_20 : decode cX9_add 20 = .ok (.iastore, 1) := by decide +kernel
theorem dX9_add_21 : decode cX9_add 21 = .ok (.aload_n 0, 1) := by decide +kernel
theorem dX9_add_22 : decode cX9_add 22 = .ok (.getfield 19, 3) := by decide +kernel
theorem dX9_add_25 : decode cX9_add 25 = .ok (.aload_n 0, 1) := by decide +kernel
theorem dX9_add_26 : decode cX9_add 26 = .ok (.getfield 9, 3) := by decide +kernel
theorem dX9_add_29 : decode cX9_add 29 = .ok (.iload_n 2, 1) := by decide +kernel
theorem dX9_add_30 : decode cX9_add 30 = .ok (.iastore, 1) := by decide +kernel
theorem dX9_add_31 : decode cX9_add 31 = .ok (.aload_n 0, 1) := by decide +kernel
theorem dX9_add_32 : decode cX9_add 32 = .ok (.dup, 1) := by decide +kernel
theorem dX9_add_33 : decode cX9_add 33 = .ok (.getfield 9, 3) := by decide +kernel
theorem dX9_add_36 : decode cX9_add 36 = .ok (.iconst 1, 1) := by decide +kernel
theorem dX9_add_37 : decode cX9_add 37 = .ok (.iadd, 1) := by decide +kernel
theorem dX9_add_38 : decode cX9_add 38 = .ok (.putfield 9, 3) := by decide +kernel
theorem dX9_add_41 : decode cX9_add 41 = .ok (.iconst 1, 1) := by decide +kernel
theorem dX9_add_42 : decode cX9_add 42 = .ok (.ireturn, 1) := by decide +kernel
theorem dX9_allows_0 : decode cX9_allows 0 = .ok (.iconst 0, 1) := by decide +kernel
theorem dX9_allows_1 : decode cX9_allows 1 = .ok (.istore_n 3, 1) := by decide +kernel
theorem dX9_allows_2 : decode cX9_allows 2 = .ok (.iload_n 3, 1) := by decide +kernel
theorem dX9_allows_3 : decode cX9_allows 3 = .ok (.aload_n 0, 1) := by decide +kernel
theorem dX9_allows_4 : decode cX9_allows 4 = .ok (.getfield 9, 3) := by decide +kernel
theorem dX9_allows_7 : decode cX9_allows 7 = .ok (.if_icmp .ge 31, 3) := by decide +kernel
theorem dX9_allows_10 : decode cX9_allows 10 = .ok (.aload_n 0, 1) := by decide +kernel
theorem dX9_allows_11 : decode cX9_allows 11 = .ok (.getfield 15, 3) := by decide +kernel
theorem dX9_allows_14 : decode cX9_allows 14 = .ok (.iload_n 3, 1) := by decide +kernel
theorem dX9_allows_15 : decode cX9_allows 15 = .ok (.iaload, 1) := by decide +kernel
theorem dX9_allows_16 : decode cX9_allows 16 = .ok (.iload_n 1, 1) := by decide +kernel
theorem dX9_allows_17 : decode cX9_allows 17 = .ok (.if_icmp .ne 15, 3) := by decide +kernel
theorem dX9_allows_20 : decode cX9_allows 20 = .ok (.aload_n 0, 1) := by decide +kernel
theorem dX9_allows_21 : decode cX9_allows 21 = .ok (.getfield 19, 3) := by decide +kernel
theorem dX9_allows_24 : decode cX9_allows 24 = .ok (.iload_n 3, 1) := by decide +kernel
theorem dX9_allows_25 : decode cX9_allows 25 = .ok (.iaload, 1) := by decide +kernel
theorem dX9_allows_26 : decode cX9_allows 26 = .ok (.iload_n 2, 1) := by decide +kernel
theorem dX9_allows_27 : decode cX9_allows 27 = .ok (.if_icmp .eq 5, 3) := by decide +kernel
theorem dX9_allows_30 : decode cX9_allows 30 = .ok (.iconst 0, 1) := by decide +kernel
theorem dX9_allows_31 : decode cX9_allows 31 = .ok (.ireturn, 1) := by decide +kernel
theorem dX9_allows_32 : decode cX9_allows 32 = .ok (.iinc 3 1, 3) := by decide +kernel
theorem dX9_allows_35 : decode cX9_allows 35 = .ok (.goto (-33), 3) := by decide +kernel
theorem dX9_allows_38 : decode cX9_allows 38 = .ok (.iconst 1, 1) := by decide +kernel
theorem dX9_allows_39 : decode cX9_allows 39 = .ok (.ireturn, 1) := by decide +kernel
theorem dX9_last_0 : decode cX9_last 0 = .ok (.iconst 0, 1) := by decide +kernel
theorem dX9_last_1 : decode cX9_last 1 = .ok (.istore_n 1, 1) := by decide +kernel
theorem dX9_last_2 : decode cX9_last 2 = .ok (.iconst 0, 1) := by decide +kernel
theorem dX9_last_3 : decode cX9_last 3 = .ok (.istore_n 2, 1) := by decide +kernel
theorem dX9_last_4 : decode cX9_last 4 = .ok (.iload_n 2, 1) := by decide +kernel
theorem dX9_last_5 : decode cX9_last 5 = .ok (.aload_n 0, 1) := by decide +kernel
theorem dX9_last_6 : decode cX9_last 6 = .ok (.getfield 9, 3) := by decide +kernel
theorem dX9_last_9 : decode cX9_last 9 = .ok (.if_icmp .ge 20, 3) := by decide +kernel
theorem dX9_last_12 : decode cX9_last 12 = .ok (.iload_n 1, 1) := by decide +kernel
theorem dX9_last_13 : decode cX9_last 13 = .ok (.aload_n 0, 1) := by decide +kernel
theorem dX9_last_14 : decode cX9_last 14 = .ok (.getfield 15, 3) := by decide +kernel
theorem dX9_last_17 : decode cX9_last 17 = .ok (.iload_n 2, 1) := by decide +kernel
theorem dX9_last_18 : decode cX9_last 18 = .ok (.iaload, 1) := by decide +kernel
theorem dX9_last_19 : decode cX9_last 19 = .ok (.invokestatic 22, 3) := by decide +kernel
theorem dX9_last_22 : decode cX9_last 22 = .ok (.istore_n 1, 1) := by decide +kernel
theorem dX9_last_23 : decode cX9_last 23 = .ok (.iinc 2 1, 3) := by decide +kernel
theorem dX9_last_26 : decode cX9_last 26 = .ok (.goto (-22), 3) := by decide +kernel
theorem dX9_last_29 : decode cX9_last 29 = .ok (.iload_n 1, 1) := by decide +kernel
theorem dX9_last_30 : decode cX9_last 30 = .ok (.ireturn, 1) := by decide +kernel
theorem dX9_become_0 : decode cX9_become 0 = .ok (.aload_n 0, 1) := by decide +kernel
theorem dX9_become_1 : decode cX9_become 1 = .ok (.aload_n 1, 1) := by decide +kernel
theorem dX9_become_2 : decode cX9_become 2 = .ok (.getfield 9, 3) := by decide +kernel
theorem dX9_become_5 : decode cX9_become 5 = .ok (.putfield 9, 3) := by decide +kernel
theorem dX9_become_8 : decode cX9_become 8 = .ok (.aload_n 1, 1) := by decide +kernel
theorem dX9_become_9 : decode cX9_become 9 = .ok (.getfield 15, 3) := by decide +kernel
theorem dX9_become_12 : decode cX9_become 12 = .ok (.iconst 0, 1) := by decide +kernel
theorem dX9_become_13 : decode cX9_become 13 = .ok (.aload_n 0, 1) := by decide +kernel
theorem dX9_become_14 : decode cX9_become 14 = .ok (.getfield 15, 3) := by decide +kernel
theorem dX9_become_17 : decode cX9_become 17 = .ok (.iconst 0, 1) := by decide +kernel
theorem dX9_become_18 : decode cX9_become 18 = .ok (.bipush 8, 2) := by decide +kernel
theorem dX9_become_20 : decode cX9_become 20 = .ok (.invokestatic 28, 3) := by decide +kernel
theorem dX9_become_23 : decode cX9_become 23 = .ok (.aload_n 1, 1) := by decide +kernel
theorem dX9_become_24 : decode cX9_become 24 = .ok (.getfield 19, 3) := by decide +kernel
theorem dX9_become_27 : decode cX9_become 27 = .ok (.iconst 0, 1) := by decide +kernel
theorem dX9_become_28 : decode cX9_become 28 = .ok (.aload_n 0, 1) := by decide +kernel
theorem dX9_become_29 : decode cX9_become 29 = .ok (.getfield 19, 3) := by decide +kernel
theorem dX9_become_32 : decode cX9_become 32 = .ok (.iconst 0, 1) := by decide +kernel
theorem dX9_become_33 : decode cX9_become 33 = .ok (.bipush 8, 2) := by decide +kernel
theorem dX9_become_35 : decode cX9_become 35 = .ok (.invokestatic 28, 3) := by decide +kernel
theorem dX9_become_38 : decode cX9_become 38 = .ok (.return_, 1) := by decide +kernel
theorem dX10_init_0 : decode cX10_init 0 = .ok (.aload_n 0, 1) := by decide +kernel
theorem dX10_init_1 : decode cX10_init 1 = .ok (.invokespecial 1, 3) := by decide +kernel
theorem dX10_init_4 : decode cX10_init 4 = .ok (.aload_n 0, 1) := by decide +kernel
theorem dX10_init_5 : decode cX10_init 5 = .ok (.iconst 0, 1) := by decide +kernel
theorem dX10_init_6 : decode cX10_init 6 = .ok (.putfield 7, 3) := by decide +kernel
theorem dX10_init_9 : decode cX10_init 9 = .ok (.aload_n 0, 1) := by decide +kernel
theorem dX10_init_10 : decode cX10_init 10 = .ok (.iconst 0, 1) := by decide +kernel
theorem dX10_init_11 : decode cX10_init 11 = .ok (.putfield 13, 3) := by decide +kernel
theorem dX10_init_14 : decode cX10_init 14 = .ok (.aload_n 0, 1) := by decide +kernel
theorem dX10_init_15 : decode cX10_init 15 = .ok (.iconst 0, 1) := by decide +kernel
theorem dX10_init_16 : decode cX10_init 16 = .ok (.putfield 16, 3) := by decide +kernel
theorem dX10_init_19 : decode cX10_init 19 = .ok (.aload_n 0, 1) := by decide +kernel
theorem dX10_init_20 : decode cX10_init 20 = .ok (.iconst 0, 1) := by decide +kernel
theorem dX10_init_21 : decode cX10_init 21 = .ok (.putfield 19, 3) := by decide +kernel
theorem dX10_init_24 : decode cX10_init 24 = .ok (.aload_n 0, 1) := by decide +kernel
theorem dX10_init_25 : decode cX10_init 25 = .ok (.iconst 0, 1) := by decide +kernel
theorem dX10_init_26 : decode cX10_init 26 = .ok (.putfield 22, 3) := by decide +kernel
theorem dX10_init_29 : decode cX10_init 29 = .ok (.aload_n 0, 1) := by decide +kernel
theorem dX10_init_30 : decode cX10_init 30 = .ok (.getstatic 25, 3) := by decide +kernel
theorem dX10_init_33 : decode cX10_init 33 = .ok (.putfield 31, 3) := by decide +kernel
theorem dX10_init_36 : decode cX10_init 36 = .ok (.aload_n 0, 1) := by decide +kernel
theorem dX10_init_37 : decode cX10_init 37 = .ok (.aload_n 1, 1) := by decide +kernel
theorem dX10_init_38 : decode cX10_init 38 = .ok (.putfield 34, 3) := by decide +kernel
theorem dX10_init_41 : decode cX10_init 41 = .ok (.return_, 1) := by decide +kernel
theorem dX10_open_0 : decode cX10_open 0 = .ok (.aload_n 0, 1) := by decide +kernel
theorem dX10_open_1 : decode cX10_open 1 = .ok (.iload_n 1, 1) := by decide +kernel
theorem dX10_open_2 : decode cX10_open 2 = .ok (.aload_n 0, 1) := by decide +kernel
theorem dX10_open_3 : decode cX10_open 3 = .ok (.getfield 34, 3) := by decide +kernel
theorem dX10_open_6 : decode cX10_open 6 = .ok (.arraylength, 1) := by decide +kernel
theorem dX10_open_7 : decode cX10_open 7 = .ok (.invokestatic 38, 3) := by decide +kernel
theorem dX10_open_10 : decode cX10_open 10 = .ok (.putfield 7, 3) := by decide +kernel
theorem dX10_open_13 : decode cX10_open 13 = .ok (.aload_n 0, 1) := by decide +kernel
theorem dX10_open_14 : decode cX10_open 14 = .ok (.iconst 0, 1) := by decide +kernel
theorem dX10_open_15 : decode cX10_open 15 = .ok (.putfield 13, 3) := by decide +kernel
theorem dX10_open_18 : decode cX10_open 18 = .ok (.aload_n 0, 1) := by decide +kernel
theorem dX10_open_19 : decode cX10_open 19 = .ok (.invokevirtual 44, 3) := by decide +kernel
theorem dX10_open_22 : decode cX10_open 22 = .ok (.return_, 1) := by decide +kernel
theorem dX10_step_0 : decode cX10_step 0 = .ok (.aload_n 0, 1) := by decide +kernel
theorem dX10_step_1 : decode cX10_step 1 = .ok (.aload_n 0, 1) := by decide +kernel
theorem dX10_step_2 : decode cX10_step 2 = .ok (.getfield 13, 3) := by decide +kernel
theorem dX10_step_5 : decode cX10_step 5 = .ok (.putfield 16, 3) := by decide +kernel
theorem dX10_step_8 : decode cX10_step 8 = .ok (.aload_n 0, 1) := by decide +kernel
theorem dX10_step_9 : decode cX10_step 9 = .ok (.getfield 16, 3) := by decide +kernel
theorem dX10_step_12 : decode cX10_step 12 = .ok (.aload_n 0, 1) := by decide +kernel
theorem dX10_step_13 : decode cX10_step 13 = .ok (.getfield 7, 3) := by decide +kernel
theorem dX10_step_16 : decode cX10_step 16 = .ok (.if_icmp .ge 44, 3) := by decide +kernel
theorem dX10_step_19 : decode cX10_step 19 = .ok (.aload_n 0, 1) := by decide +kernel
theorem dX10_step_20 : decode cX10_step 20 = .ok (.getfield 34, 3) := by decide +kernel
theorem dX10_step_23 : decode cX10_step 23 = .ok (.aload_n 0, 1) := by decide +kernel
theorem dX10_step_24 : decode cX10_step 24 = .ok (.getfield 16, 3) := by decide +kernel
theorem dX10_step_27 : decode cX10_step 27 = .ok (.baload, 1) := by decide +kernel
theorem dX10_step_28 : decode cX10_step 28 = .ok (.bipush 32, 2) := by decide +kernel
theorem dX10_step_30 : decode cX10_step 30 = .ok (.if_icmp .eq 17, 3) := by decide +kernel
theorem dX10_step_33 : decode cX10_step 33 = .ok (.aload_n 0, 1) := by decide +kernel
theorem dX10_step_34 : decode cX10_step 34 = .ok (.getfield 34, 3) := by decide +kernel
theorem dX10_step_37 : decode cX10_step 37 = .ok (.aload_n 0, 1) := by decide +kernel
theorem dX10_step_38 : decode cX10_step 38 = .ok (.getfield 16, 3) := by decide +kernel
theorem dX10_step_41 : decode cX10_step 41 = .ok (.baload, 1) := by decide +kernel
theorem dX10_step_42 : decode cX10_step 42 = .ok (.bipush 10, 2) := by decide +kernel
theorem dX10_step_44 : decode cX10_step 44 = .ok (.if_icmp .ne 16, 3) := by decide +kernel
theorem dX10_step_47 : decode cX10_step 47 = .ok (.aload_n 0, 1) := by decide +kernel
theorem dX10_step_48 : decode cX10_step 48 = .ok (.dup, 1) := by decide +kernel
theorem dX10_step_49 : decode cX10_step 49 = .ok (.getfield 16, 3) := by decide +kernel
theorem dX10_step_52 : decode cX10_step 52 = .ok (.iconst 1, 1) := by decide +kernel
theorem dX10_step_53 : decode cX10_step 53 = .ok (.iadd, 1) := by decide +kernel
theorem dX10_step_54 : decode cX10_step 54 = .ok (.putfield 16, 3) := by decide +kernel
theorem dX10_step_57 : decode cX10_step 57 = .ok (.goto (-49), 3) := by decide +kernel
theorem dX10_step_60 : decode cX10_step 60 = .ok (.aload_n 0, 1) := by decide +kernel
theorem dX10_step_61 : decode cX10_step 61 = .ok (.getstatic 25, 3) := by decide +kernel
theorem dX10_step_64 : decode cX10_step 64 = .ok (.putfield 31, 3) := by decide +kernel
theorem dX10_step_67 : decode cX10_step 67 = .ok (.aload_n 0, 1) := by decide +kernel
theorem dX10_step_68 : decode cX10_step 68 = .ok (.iconst 0, 1) := by decide +kernel
theorem dX10_step_69 : decode cX10_step 69 = .ok (.putfield 22, 3) := by decide +kernel
theorem dX10_step_72 : decode cX10_step 72 = .ok (.aload_n 0, 1) := by decide +kernel
theorem dX10_step_73 : decode cX10_step 73 = .ok (.aload_n 0, 1) := by decide +kernel
theorem dX10_step_74 : decode cX10_step 74 = .ok (.getfield 16, 3) := by decide +kernel
theorem dX10_step_77 : decode cX10_step 77 = .ok (.putfield 13, 3) := by decide +kernel
theorem dX10_step_80 : decode cX10_step 80 = .ok (.aload_n 0, 1) := by decide +kernel
theorem dX10_step_81 : decode cX10_step 81 = .ok (.getfield 16, 3) := by decide +kernel
theorem dX10_step_84 : decode cX10_step 84 = .ok (.aload_n 0, 1) := by decide +kernel
theorem dX10_step_85 : decode cX10_step 85 = .ok (.getfield 7, 3) := by decide +kernel
theorem dX10_step_88 : decode cX10_step 88 = .ok (.if_icmp .lt 11, 3) := by decide +kernel
theorem dX10_step_91 : decode cX10_step 91 = .ok (.aload_n 0, 1) := by decide +kernel
theorem dX10_step_92 : decode cX10_step 92 = .ok (.iconst 0, 1) := by decide +kernel
theorem dX10_step_93 : decode cX10_step 93 = .ok (.putfield 19, 3) := by decide +kernel
theorem dX10_step_96 : decode cX10_step 96 = .ok (.goto 89, 3) := by decide +kernel
theorem dX10_step_99 : decode cX10_step 99 = .ok (.aload_n 0, 1) := by decide +kernel
theorem dX10_step_100 : decode cX10_step 100 = .ok (.getfield 34, 3) := by decide +kernel
theorem dX10_step_103 : decode cX10_step 103 = .ok (.aload_n 0, 1) := by decide +kernel
theorem dX10_step_104 : decode cX10_step 104 = .ok (.getfield 16, 3) := by decide +kernel
theorem dX10_step_107 : decode cX10_step 107 = .ok (.baload, 1) := by decide +kernel
theorem dX10_step_108 : decode cX10_step 108 = .ok (.invokestatic 47, 3) := by decide +kernel
theorem dX10_step_111 : decode cX10_step 111 = .ok (.ifCond .eq 10, 3) := by decide +kernel
theorem dX10_step_114 : decode cX10_step 114 = .ok (.aload_n 0, 1) := by decide +kernel
theorem dX10_step_115 : decode cX10_step 115 = .ok (.invokevirtual 51, 3) := by decide +kernel
theorem dX10_step_118 : decode cX10_step 118 = .ok (.goto 67, 3) := by decide +kernel
theorem dX10_step_121 : decode cX10_step 121 = .ok (.aload_n 0, 1) := by decide +kernel
theorem dX10_step_122 : decode cX10_step 122 = .ok (.getfield 34, 3) := by decide +kernel
theorem dX10_step_125 : decode cX10_step 125 = .ok (.aload_n 0, 1) := by decide +kernel
theorem dX10_step_126 : decode cX10_step 126 = .ok (.getfield 16, 3) := by decide +kernel
theorem dX10_step_129 : decode cX10_step 129 = .ok (.baload, 1) := by decide +kernel
theorem dX10_step_130 : decode cX10_step 130 = .ok (.invokestatic 54, 3) := by decide +kernel
theorem dX10_step_133 : decode cX10_step 133 = .ok (.ifCond .eq 10, 3) := by decide +kernel
theorem dX10_step_136 : decode cX10_step 136 = .ok (.aload_n 0, 1) := by decide +kernel
theorem dX10_step_137 : decode cX10_step 137 = .ok (.invokevirtual 57, 3) := by decide +kernel
theorem dX10_step_140 : decode cX10_step 140 = .ok (.goto 45, 3) := by decide +kernel
theorem dX10_step_143 : decode cX10_step 143 = .ok (.aload_n 0, 1) := by decide +kernel
theorem dX10_step_144 : decode cX10_step 144 = .ok (.aload_n 0, 1) := by decide +kernel
theorem dX10_step_145 : decode cX10_step 145 = .ok (.getfield 34, 3) := by decide +kernel
theorem dX10_step_148 : decode cX10_step 148 = .ok (.aload_n 0, 1) := by decide +kernel
theorem dX10_step_149 : decode cX10_step 149 = .ok (.getfield 16, 3) := by decide +kernel
theorem dX10_step_152 : decode cX10_step 152 = .ok (.baload, 1) := by decide +kernel
theorem dX10_step_153 : decode cX10_step 153 = .ok (.invokestatic 60, 3) := by decide +kernel
theorem dX10_step_156 : decode cX10_step 156 = .ok (.ifCond .eq 15, 3) := by decide +kernel
theorem dX10_step_159 : decode cX10_step 159 = .ok (.aload_n 0, 1) := by decide +kernel
theorem dX10_step_160 : decode cX10_step 160 = .ok (.getfield 34, 3) := by decide +kernel
theorem dX10_step_163 : decode cX10_step 163 = .ok (.aload_n 0, 1) := by decide +kernel
theorem dX10_step_164 : decode cX10_step 164 = .ok (.getfield 16, 3) := by decide +kernel
theorem dX10_step_167 : decode cX10_step 167 = .ok (.baload, 1) := by decide +kernel
theorem dX10_step_168 : decode cX10_step 168 = .ok (.goto 4, 3) := by decide +kernel
theorem dX10_step_171 : decode cX10_step 171 = .ok (.iconst 3, 1) := by decide +kernel
theorem dX10_step_172 : decode cX10_step 172 = .ok (.putfield 19, 3) := by decide +kernel
theorem dX10_step_175 : decode cX10_step 175 = .ok (.aload_n 0, 1) := by decide +kernel
theorem dX10_step_176 : decode cX10_step 176 = .ok (.dup, 1) := by decide +kernel
theorem dX10_step_177 : decode cX10_step 177 = .ok (.getfield 13, 3) := by decide +kernel
theorem dX10_step_180 : decode cX10_step 180 = .ok (.iconst 1, 1) := by decide +kernel
theorem dX10_step_181 : decode cX10_step 181 = .ok (.iadd, 1) := by decide +kernel
theorem dX10_step_182 : decode cX10_step 182 = .ok (.putfield 13, 3) := by decide +kernel
theorem dX10_step_185 : decode cX10_step 185 = .ok (.return_, 1) := by decide +kernel
theorem dX10_readWord_0 : decode cX10_readWord 0 = .ok (.aload_n 0, 1) := by decide +kernel
theorem dX10_readWord_1 : decode cX10_readWord 1 = .ok (.getfield 13, 3) := by decide +kernel
theorem dX10_readWord_4 : decode cX10_readWord 4 = .ok (.aload_n 0, 1) := by decide +kernel
theorem dX10_readWord_5 : decode cX10_readWord 5 = .ok (.getfield 7, 3) := by decide +kernel
theorem dX10_readWord_8 : decode cX10_readWord 8 = .ok (.if_icmp .ge 31, 3) := by decide +kernel
theorem dX10_readWord_11 : decode cX10_readWord 11 = .ok (.aload_n 0, 1) := by decide +kernel
theorem dX10_readWord_12 : decode cX10_readWord 12 = .ok (.getfield 34, 3) := by decide +kernel
theorem dX10_readWord_15 : decode cX10_readWord 15 = .ok (.aload_n 0, 1) := by decide +kernel
theorem dX10_readWord_16 : decode cX10_readWord 16 = .ok (.getfield 13, 3) := by decide +kernel
theorem dX10_readWord_19 : decode cX10_readWord 19 = .ok (.baload, 1) := by decide +kernel
theorem dX10_readWord_20 : decode cX10_readWord 20 = .ok (.invokestatic 47, 3) := by decide +kernel
theorem dX10_readWord_23 : decode cX10_readWord 23 = .ok (.ifCond .eq 16, 3) := by decide +kernel
theorem dX10_readWord_26 : decode cX10_readWord 26 = .ok (.aload_n 0, 1) := by decide +kernel
theorem dX10_readWord_27 : decode cX10_readWord 27 = .ok (.dup, 1) := by decide +kernel
theorem dX10_readWord_28 : decode cX10_readWord 28 = .ok (.getfield 13, 3) := by decide +kernel
theorem dX10_readWord_31 : decode cX10_readWord 31 = .ok (.iconst 1, 1) := by decide +kernel
theorem dX10_readWord_32 : decode cX10_readWord 32 = .ok (.iadd, 1) := by decide +kernel
theorem dX10_readWord_33 : decode cX10_readWord 33 = .ok (.putfield 13, 3) := by decide +kernel
theorem dX10_readWord_36 : decode cX10_readWord 36 = .ok (.goto (-36), 3) := by decide +kernel
theorem dX10_readWord_39 : decode cX10_readWord 39 = .ok (.aload_n 0, 1) := by decide +kernel
theorem dX10_readWord_40 : decode cX10_readWord 40 = .ok (.iconst 1, 1) := by decide +kernel
theorem dX10_readWord_41 : decode cX10_readWord 41 = .ok (.putfield 19, 3) := by decide +kernel
theorem dX10_readWord_44 : decode cX10_readWord 44 = .ok (.aload_n 0, 1) := by decide +kernel
theorem dX10_readWord_45 : decode cX10_readWord 45 = .ok (.getfield 13, 3) := by decide +kernel
theorem dX10_readWord_48 : decode cX10_readWord 48 = .ok (.aload_n 0, 1) := by decide +kernel
theorem dX10_readWord_49 : decode cX10_readWord 49 = .ok (.getfield 16, 3) := by decide +kernel
theorem dX10_readWord_52 : decode cX10_readWord 52 = .ok (.isub, 1) := by decide +kernel
theorem dX10_readWord_53 : decode cX10_readWord 53 = .ok (.istore_n 1, 1) := by decide +kernel
theorem dX10_readWord_54 : decode cX10_readWord 54 = .ok (.iconst 0, 1) := by decide +kernel
theorem dX10_readWord_55 : decode cX10_readWord 55 = .ok (.istore_n 2, 1) := by decide +kernel
theorem dX10_readWord_56 : decode cX10_readWord 56 = .ok (.iload_n 2, 1) := by decide +kernel
theorem dX10_readWord_57 : decode cX10_readWord 57 = .ok (.getstatic 63, 3) := by decide +kernel
theorem dX10_readWord_60 : decode cX10_readWord 60 = .ok (.arraylength, 1) := by decide +kernel
theorem dX10_readWord_61 : decode cX10_readWord 61 = .ok (.if_icmp .ge 77, 3) := by decide +kernel
theorem dX10_readWord_64 : decode cX10_readWord 64 = .ok (.getstatic 63, 3) := by decide +kernel
theorem dX10_readWord_67 : decode cX10_readWord 67 = .ok (.iload_n 2, 1) := by decide +kernel
theorem dX10_readWord_68 : decode cX10_readWord 68 = .ok (.aaload, 1) := by decide +kernel
theorem dX10_readWord_69 : decode cX10_readWord 69 = .ok (.getfield 69, 3) := by decide +kernel
theorem dX10_readWord_72 : decode cX10_readWord 72 = .ok (.astore_n 3, 1) := by decide +kernel
theorem dX10_readWord_73 : decode cX10_readWord 73 = .ok (.iconst 0, 1) := by decide +kernel
theorem dX10_readWord_74 : decode cX10_readWord 74 = .ok (.istore 4, 2) := by decide +kernel
theorem dX10_readWord_76 : decode cX10_readWord 76 = .ok (.iload 4, 2) := by decide +kernel
theorem dX10_readWord_78 : decode cX10_readWord 78 = .ok (.iload_n 1, 1) := by decide +kernel
theorem dX10_readWord_79 : decode cX10_readWord 79 = .ok (.if_icmp .ge 38, 3) := by decide +kernel
theorem dX10_readWord_82 : decode cX10_readWord 82 = .ok (.iload_n 1, 1) := by decide +kernel
theorem dX10_readWord_83 : decode cX10_readWord 83 = .ok (.aload_n 3, 1) := by decide +kernel
theorem dX10_readWord_84 : decode cX10_readWord 84 = .ok (.invokevirtual 72, 3) := by decide +kernel
theorem dX10_readWord_87 : decode cX10_readWord 87 = .ok (.if_icmp .ne 30, 3) := by decide +kernel
theorem dX10_readWord_90 : decode cX10_readWord 90 = .ok (.aload_n 3, 1) := by decide +kernel
theorem dX10_readWord_91 : decode cX10_readWord 91 = .ok (.iload 4, 2) := by decide +kernel
theorem dX10_readWord_93 : decode cX10_readWord 93 = .ok (.invokevirtual 77, 3) := by decide +kernel
theorem dX10_readWord_96 : decode cX10_readWord 96 = .ok (.aload_n 0, 1) := by decide +kernel
theorem dX10_readWord_97 : decode cX10_readWord 97 = .ok (.getfield 34, 3) := by decide +kernel
theorem dX10_readWord_100 : decode cX10_readWord 100 = .ok (.aload_n 0, 1) := by decide +kernel
theorem dX10_readWord_101 : decode cX10_readWord 101 = .ok (.getfield 16, 3) := by decide +kernel
theorem dX10_readWord_104 : decode cX10_readWord 104 = .ok (.iload 4, 2) := by decide +kernel
theorem dX10_readWord_106 : decode cX10_readWord 106 = .ok (.iadd, 1) := by decide +kernel
theorem dX10_readWord_107 : decode cX10_readWord 107 = .ok (.baload, 1) := by decide +kernel
theorem dX10_readWord_108 : decode cX10_readWord 108 = .ok (.if_icmp .ne 9, 3) := by decide +kernel
theorem dX10_readWord_111 : decode cX10_readWord 111 = .ok (.iinc 4 1, 3) := by decide +kernel
theorem dX10_readWord_114 : decode cX10_readWord 114 = .ok (.goto (-38), 3) := by decide +kernel
theorem dX10_readWord_117 : decode cX10_readWord 117 = .ok (.iload 4, 2) := by decide +kernel
theorem dX10_readWord_119 : decode cX10_readWord 119 = .ok (.iload_n 1, 1) := by decide +kernel
theorem dX10_readWord_120 : decode cX10_readWord 120 = .ok (.if_icmp .ne 12, 3) := by decide +kernel
theorem dX10_readWord_123 : decode cX10_readWord 123 = .ok (.aload_n 0, 1) := by decide +kernel
theorem dX10_readWord_124 : decode cX10_readWord 124 = .ok (.getstatic 63, 3) := by decide +kernel
theorem dX10_readWord_127 : decode cX10_readWord 127 = .ok (.iload_n 2, 1) := by decide +kernel
theorem dX10_readWord_128 : decode cX10_readWord 128 = .ok (.aaload, 1) := by decide +kernel
theorem dX10_readWord_129 : decode cX10_readWord 129 = .ok (.putfield 31, 3) := by decide +kernel
theorem dX10_readWord_132 : decode cX10_readWord 132 = .ok (.iinc 2 1, 3) := by decide +kernel
theorem dX10_readWord_135 : decode cX10_readWord 135 = .ok (.goto (-79), 3) := by decide +kernel
theorem dX10_readWord_138 : decode cX10_readWord 138 = .ok (.return_, 1) := by decide +kernel
theorem dX10_readNumber_0 : decode cX10_readNumber 0 = .ok (.aload_n 0, 1) := by decide +kernel
theorem dX10_readNumber_1 : decode cX10_readNumber 1 = .ok (.getfield 13, 3) := by decide +kernel
theorem dX10_readNumber_4 : decode cX10_readNumber 4 = .ok (.aload_n 0, 1) := by decide +kernel
theorem dX10_readNumber_5 : decode cX10_readNumber 5 = .ok (.getfield 7, 3) := by decide +kernel
theorem dX10_readNumber_8 : decode cX10_readNumber 8 = .ok (.if_icmp .ge 68, 3) := by decide +kernel
theorem dX10_readNumber_11 : decode cX10_readNumber 11 = .ok (.aload_n 0, 1) := by decide +kernel
theorem dX10_readNumber_12 : decode cX10_readNumber 12 = .ok (.getfield 34, 3) := by decide +kernel
theorem dX10_readNumber_15 : decode cX10_readNumber 15 = .ok (.aload_n 0, 1) := by decide +kernel
theorem dX10_readNumber_16 : decode cX10_readNumber 16 = .ok (.getfield 13, 3) := by decide +kernel
theorem dX10_readNumber_19 : decode cX10_readNumber 19 = .ok (.baload, 1) := by decide +kernel
theorem dX10_readNumber_20 : decode cX10_readNumber 20 = .ok (.invokestatic 54, 3) := by decide +kernel
theorem dX10_readNumber_23 : decode cX10_readNumber 23 = .ok (.ifCond .eq 53, 3) := by decide +kernel
theorem dX10_readNumber_26 : decode cX10_readNumber 26 = .ok (.aload_n 0, 1) := by decide +kernel
theorem dX10_readNumber_27 : decode cX10_readNumber 27 = .ok (.getfield 13, 3) := by decide +kernel
theorem dX10_readNumber_30 : decode cX10_readNumber 30 = .ok (.aload_n 0, 1) := by decide +kernel
theorem dX10_readNumber_31 : decode cX10_readNumber 31 = .ok (.getfield 16, 3) := by decide +kernel
theorem dX10_readNumber_34 : decode cX10_readNumber 34 = .ok (.isub, 1) := by decide +kernel
theorem dX10_readNumber_35 : decode cX10_readNumber 35 = .ok (.iconst 4, 1) := by decide +kernel
theorem dX10_readNumber_36 : decode cX10_readNumber 36 = .ok (.if_icmp .ge 27, 3) := by decide +kernel
theorem dX10_readNumber_39 : decode cX10_readNumber 39 = .ok (.aload_n 0, 1) := by decide +kernel
theorem dX10_readNumber_40 : decode cX10_readNumber 40 = .ok (.aload_n 0, 1) := by decide +kernel
theorem dX10_readNumber_41 : decode cX10_readNumber 41 = .ok (.getfield 22, 3) := by decide +kernel
theorem dX10_readNumber_44 : decode cX10_readNumber 44 = .ok (.bipush 10, 2) := by decide +kernel
theorem dX10_readNumber_46 : decode cX10_readNumber 46 = .ok (.imul, 1) := by decide +kernel
theorem dX10_readNumber_47 : decode cX10_readNumber 47 = .ok (.aload_n 0, 1) := by decide +kernel
theorem dX10_readNumber_48 : decode cX10_readNumber 48 = .ok (.getfield 34, 3) := by decide +kernel
theorem dX10_readNumber_51 : decode cX10_readNumber 51 = .ok (.aload_n 0, 1) := by decide +kernel
theorem dX10_readNumber_52 : decode cX10_readNumber 52 = .ok (.getfield 13, 3) := by decide +kernel
theorem dX10_readNumber_55 : decode cX10_readNumber 55 = .ok (.baload, 1) := by decide +kernel
theorem dX10_readNumber_56 : decode cX10_readNumber 56 = .ok (.iadd, 1) := by decide +kernel
theorem dX10_readNumber_57 : decode cX10_readNumber 57 = .ok (.bipush 48, 2) := by decide +kernel
theorem dX10_readNumber_59 : decode cX10_readNumber 59 = .ok (.isub, 1) := by decide +kernel
theorem dX10_readNumber_60 : decode cX10_readNumber 60 = .ok (.putfield 22, 3) := by decide +kernel
theorem dX10_readNumber_63 : decode cX10_readNumber 63 = .ok (.aload_n 0, 1) := by decide +kernel
theorem dX10_readNumber_64 : decode cX10_readNumber 64 = .ok (.dup, 1) := by decide +kernel
theorem dX10_readNumber_65 : decode cX10_readNumber 65 = .ok (.getfield 13, 3) := by decide +kernel
theorem dX10_readNumber_68 : decode cX10_readNumber 68 = .ok (.iconst 1, 1) := by decide +kernel
theorem dX10_readNumber_69 : decode cX10_readNumber 69 = .ok (.iadd, 1) := by decide +kernel
theorem dX10_readNumber_70 : decode cX10_readNumber 70 = .ok (.putfield 13, 3) := by decide +kernel
theorem dX10_readNumber_73 : decode cX10_readNumber 73 = .ok (.goto (-73), 3) := by decide +kernel
theorem dX10_readNumber_76 : decode cX10_readNumber 76 = .ok (.aload_n 0, 1) := by decide +kernel
theorem dX10_readNumber_77 : decode cX10_readNumber 77 = .ok (.iconst 2, 1) := by decide +kernel
theorem dX10_readNumber_78 : decode cX10_readNumber 78 = .ok (.putfield 19, 3) := by decide +kernel
theorem dX10_readNumber_81 : decode cX10_readNumber 81 = .ok (.aload_n 0, 1) := by decide +kernel
theorem dX10_readNumber_82 : decode cX10_readNumber 82 = .ok (.getfield 13, 3) := by decide +kernel
theorem dX10_readNumber_85 : decode cX10_readNumber 85 = .ok (.aload_n 0, 1) := by decide +kernel
theorem dX10_readNumber_86 : decode cX10_readNumber 86 = .ok (.getfield 16, 3) := by decide +kernel
theorem dX10_readNumber_89 : decode cX10_readNumber 89 = .ok (.isub, 1) := by decide +kernel
theorem dX10_readNumber_90 : decode cX10_readNumber 90 = .ok (.iconst 4, 1) := by decide +kernel
theorem dX10_readNumber_91 : decode cX10_readNumber 91 = .ok (.if_icmp .le 10, 3) := by decide +kernel
theorem dX10_readNumber_94 : decode cX10_readNumber 94 = .ok (.aload_n 0, 1) := by decide +kernel
theorem dX10_readNumber_95 : decode cX10_readNumber 95 = .ok (.sipush 10000, 3) := by decide +kernel
theorem dX10_readNumber_98 : decode cX10_readNumber 98 = .ok (.putfield 22, 3) := by decide +kernel
theorem dX10_readNumber_101 : decode cX10_readNumber 101 = .ok (.return_, 1) := by decide +kernel
theorem dX10_isLetter_0 : decode cX10_isLetter 0 = .ok (.iload_n 0, 1) := by decide +kernel
theorem dX10_isLetter_1 : decode cX10_isLetter 1 = .ok (.bipush 97, 2) := by decide +kernel
theorem dX10_isLetter_3 : decode cX10_isLetter 3 = .ok (.if_icmp .lt 13, 3) := by decide +kernel
theorem dX10_isLetter_6 : decode cX10_isLetter 6 = .ok (.iload_n 0, 1) := by decide +kernel
theorem dX10_isLetter_7 : decode cX10_isLetter 7 = .ok (.bipush 122, 2) := by decide +kernel
theorem dX10_isLetter_9 : decode cX10_isLetter 9 = .ok (.if_icmp .gt 7, 3) := by decide +kernel
theorem dX10_isLetter_12 : decode cX10_isLetter 12 = .ok (.iconst 1, 1) := by decide +kernel
theorem dX10_isLetter_13 : decode cX10_isLetter 13 = .ok (.goto 4, 3) := by decide +kernel
theorem dX10_isLetter_16 : decode cX10_isLetter 16 = .ok (.iconst 0, 1) := by decide +kernel
theorem dX10_isLetter_17 : decode cX10_isLetter 17 = .ok (.ireturn, 1) := by decide +kernel
theorem dX10_isDigit_0 : decode cX10_isDigit 0 = .ok (.iload_n 0, 1) := by decide +kernel
theorem dX10_isDigit_1 : decode cX10_isDigit 1 = .ok (.bipush 48, 2) := by decide +kernel
theorem dX10_isDigit_3 : decode cX10_isDigit 3 = .ok (.if_icmp .lt 13, 3) := by decide +kernel
theorem dX10_isDigit_6 : decode cX10_isDigit 6 = .ok (.iload_n 0, 1) := by decide +kernel
theorem dX10_isDigit_7 : decode cX10_isDigit 7 = .ok (.bipush 57, 2) := by decide +kernel
theorem dX10_isDigit_9 : decode cX10_isDigit 9 = .ok (.if_icmp .gt 7, 3) := by decide +kernel
theorem dX10_isDigit_12 : decode cX10_isDigit 12 = .ok (.iconst 1, 1) := by decide +kernel
theorem dX10_isDigit_13 : decode cX10_isDigit 13 = .ok (.goto 4, 3) := by decide +kernel
theorem dX10_isDigit_16 : decode cX10_isDigit 16 = .ok (.iconst 0, 1) := by decide +kernel
theorem dX10_isDigit_17 : decode cX10_isDigit 17 = .ok (.ireturn, 1) := by decide +kernel
theorem dX10_isSign_0 : decode cX10_isSign 0 = .ok (.iload_n 0, 1) := by decide +kernel
theorem dX10_isSign_1 : decode cX10_isSign 1 = .ok (.bipush 59, 2) := by decide +kernel
theorem dX10_isSign_3 : decode cX10_isSign 3 = .ok (.if_icmp .eq 39, 3) := by decide +kernel
theorem dX10_isSign_6 : decode cX10_isSign 6 = .ok (.iload_n 0, 1) := by decide +kernel
theorem dX10_isSign_7 : decode cX10_isSign 7 = .ok (.bipush 60, 2) := by decide +kernel
theorem dX10_isSign_9 : decode cX10_isSign 9 = .ok (.if_icmp .eq 33, 3) := by decide +kernel
theorem dX10_isSign_12 : decode cX10_isSign 12 = .ok (.iload_n 0, 1) := by decide +kernel
theorem dX10_isSign_13 : decode cX10_isSign 13 = .ok (.bipush 61, 2) := by decide +kernel
theorem dX10_isSign_15 : decode cX10_isSign 15 = .ok (.if_icmp .eq 27, 3) := by decide +kernel
theorem dX10_isSign_18 : decode cX10_isSign 18 = .ok (.iload_n 0, 1) := by decide +kernel
theorem dX10_isSign_19 : decode cX10_isSign 19 = .ok (.bipush 47, 2) := by decide +kernel
theorem dX10_isSign_21 : decode cX10_isSign 21 = .ok (.if_icmp .eq 21, 3) := by decide +kernel
theorem dX10_isSign_24 : decode cX10_isSign 24 = .ok (.iload_n 0, 1) := by decide +kernel
theorem dX10_isSign_25 : decode cX10_isSign 25 = .ok (.bipush 40, 2) := by decide +kernel
theorem dX10_isSign_27 : decode cX10_isSign 27 = .ok (.if_icmp .lt 19, 3) := by decide +kernel
theorem dX10_isSign_30 : decode cX10_isSign 30 = .ok (.iload_n 0, 1) := by decide +kernel
theorem dX10_isSign_31 : decode cX10_isSign 31 = .ok (.bipush 45, 2) := by decide +kernel
theorem dX10_isSign_33 : decode cX10_isSign 33 = .ok (.if_icmp .gt 13, 3) := by decide +kernel
theorem dX10_isSign_36 : decode cX10_isSign 36 = .ok (.iload_n 0, 1) := by decide +kernel
theorem dX10_isSign_37 : decode cX10_isSign 37 = .ok (.bipush 44, 2) := by decide +kernel
theorem dX10_isSign_39 : decode cX10_isSign 39 = .ok (.if_icmp .eq 7, 3) := by decide +kernel
theorem dX10_isSign_42 : decode cX10_isSign 42 = .ok (.iconst 1, 1) := by decide +kernel
theorem dX10_isSign_43 : decode cX10_isSign 43 = .ok (.goto 4, 3) := by decide +kernel
theorem dX10_isSign_46 : decode cX10_isSign 46 = .ok (.iconst 0, 1) := by decide +kernel
theorem dX10_isSign_47 : decode cX10_isSign 47 = .ok (.ireturn, 1) := by decide +kernel
theorem dX12_init_0 : decode cX12_init 0 = .ok (.aload_n 0, 1) := by decide +kernel
theorem dX12_init_1 : decode cX12_init 1 = .ok (.invokespecial 1, 3) := by decide +kernel
theorem dX12_init_4 : decode cX12_init 4 = .ok (.aload_n 0, 1) := by decide +kernel
theorem dX12_init_5 : decode cX12_init 5 = .ok (.sipush 700, 3) := by decide +kernel
theorem dX12_init_8 : decode cX12_init 8 = .ok (.newarray .byte, 2) := by decide +kernel
theorem dX12_init_10 : decode cX12_init 10 = .ok (.putfield 9, 3) := by decide +kernel
theorem dX12_init_13 : decode cX12_init 13 = .ok (.aload_n 0, 1) := by decide +kernel
theorem dX12_init_14 : decode cX12_init 14 = .ok (.iconst 0, 1) := by decide +kernel
theorem dX12_init_15 : decode cX12_init 15 = .ok (.putfield 13, 3) := by decide +kernel
theorem dX12_init_18 : decode cX12_init 18 = .ok (.aload_n 0, 1) := by decide +kernel
theorem dX12_init_19 : decode cX12_init 19 = .ok (.iconst (-1), 1) := by decide +kernel
theorem dX12_init_20 : decode cX12_init 20 = .ok (.putfield 17, 3) := by decide +kernel
theorem dX12_init_23 : decode cX12_init 23 = .ok (.aload_n 0, 1) := by decide +kernel
theorem dX12_init_24 : decode cX12_init 24 = .ok (.iconst 3, 1) := by decide +kernel
theorem dX12_init_25 : decode cX12_init 25 = .ok (.newarray .int, 2) := by decide +kernel
theorem dX12_init_27 : decode cX12_init 27 = .ok (.putfield 20, 3) := by decide +kernel
theorem dX12_init_30 : decode cX12_init 30 = .ok (.aload_n 0, 1) := by decide +kernel
theorem dX12_init_31 : decode cX12_init 31 = .ok (.new 24, 3) := by decide +kernel
theorem dX12_init_34 : decode cX12_init 34 = .ok (.dup, 1) := by decide +kernel
theorem dX12_init_35 : decode cX12_init 35 = .ok (.aload_n 0, 1) := by decide +kernel
theorem dX12_init_36 : decode cX12_init 36 = .ok (.getfield 9, 3) := by decide +kernel
theorem dX12_init_39 : decode cX12_init 39 = .ok (.invokespecial 26, 3) := by decide +kernel
theorem dX12_init_42 : decode cX12_init 42 = .ok (.putfield 29, 3) := by decide +kernel
theorem dX12_init_45 : decode cX12_init 45 = .ok (.aload_n 0, 1) := by decide +kernel
theorem dX12_init_46 : decode cX12_init 46 = .ok (.new 33, 3) := by decide +kernel
theorem dX12_init_49 : decode cX12_init 49 = .ok (.dup, 1) := by decide +kernel
theorem dX12_init_50 : decode cX12_init 50 = .ok (.invokespecial 35, 3) := by decide +kernel
theorem dX12_init_53 : decode cX12_init 53 = .ok (.putfield 36, 3) := by decide +kernel
theorem dX12_init_56 : decode cX12_init 56 = .ok (.aload_n 0, 1) := by decide +kernel
theorem dX12_init_57 : decode cX12_init 57 = .ok (.new 40, 3) := by decide +kernel
theorem dX12_init_60 : decode cX12_init 60 = .ok (.dup, 1) := by decide +kernel
theorem dX12_init_61 : decode cX12_init 61 = .ok (.aload_n 0, 1) := by decide +kernel
theorem dX12_init_62 : decode cX12_init 62 = .ok (.getfield 36, 3) := by decide +kernel
theorem dX12_init_65 : decode cX12_init 65 = .ok (.invokespecial 42, 3) := by decide +kernel
theorem dX12_init_68 : decode cX12_init 68 = .ok (.putfield 45, 3) := by decide +kernel
theorem dX12_init_71 : decode cX12_init 71 = .ok (.aload_n 0, 1) := by decide +kernel
theorem dX12_init_72 : decode cX12_init 72 = .ok (.new 49, 3) := by decide +kernel
theorem dX12_init_75 : decode cX12_init 75 = .ok (.dup, 1) := by decide +kernel
theorem dX12_init_76 : decode cX12_init 76 = .ok (.invokespecial 51, 3) := by decide +kernel
theorem dX12_init_79 : decode cX12_init 79 = .ok (.putfield 52, 3) := by decide +kernel
theorem dX12_init_82 : decode cX12_init 82 = .ok (.aload_n 0, 1) := by decide +kernel
theorem dX12_init_83 : decode cX12_init 83 = .ok (.new 49, 3) := by decide +kernel
theorem dX12_init_86 : decode cX12_init 86 = .ok (.dup, 1) := by decide +kernel
theorem dX12_init_87 : decode cX12_init 87 = .ok (.invokespecial 51, 3) := by decide +kernel
theorem dX12_init_90 : decode cX12_init 90 = .ok (.putfield 56, 3) := by decide +kernel
theorem dX12_init_93 : decode cX12_init 93 = .ok (.aload_n 0, 1) := by decide +kernel
theorem dX12_init_94 : decode cX12_init 94 = .ok (.new 59, 3) := by decide +kernel
theorem dX12_init_97 : decode cX12_init 97 = .ok (.dup, 1) := by decide +kernel
theorem dX12_init_98 : decode cX12_init 98 = .ok (.invokespecial 61, 3) := by decide +kernel
theorem dX12_init_101 : decode cX12_init 101 = .ok (.putfield 62, 3) := by decide +kernel
theorem dX12_init_104 : decode cX12_init 104 = .ok (.aload_n 0, 1) := by decide +kernel
theorem dX12_init_105 : decode cX12_init 105 = .ok (.new 66, 3) := by decide +kernel
theorem dX12_init_108 : decode cX12_init 108 = .ok (.dup, 1) := by decide +kernel
theorem dX12_init_109 : decode cX12_init 109 = .ok (.invokespecial 68, 3) := by decide +kernel
theorem dX12_init_112 : decode cX12_init 112 = .ok (.putfield 69, 3) := by decide +kernel
theorem dX12_init_115 : decode cX12_init 115 = .ok (.aload_n 0, 1) := by decide +kernel
theorem dX12_init_116 : decode cX12_init 116 = .ok (.iconst 0, 1) := by decide +kernel
theorem dX12_init_117 : decode cX12_init 117 = .ok (.putfield 73, 3) := by decide +kernel
theorem dX12_init_120 : decode cX12_init 120 = .ok (.aload_n 0, 1) := by decide +kernel
theorem dX12_init_121 : decode cX12_init 121 = .ok (.bipush 31, 2) := by decide +kernel
theorem dX12_init_123 : decode cX12_init 123 = .ok (.newarray .int, 2) := by decide +kernel
theorem dX12_init_125 : decode cX12_init 125 = .ok (.putfield 77, 3) := by decide +kernel
theorem dX12_init_128 : decode cX12_init 128 = .ok (.aload_n 0, 1) := by decide +kernel
theorem dX12_init_129 : decode cX12_init 129 = .ok (.new 59, 3) := by decide +kernel
theorem dX12_init_132 : decode cX12_init 132 = .ok (.dup, 1) := by decide +kernel
theorem dX12_init_133 : decode cX12_init 133 = .ok (.invokespecial 61, 3) := by decide +kernel
theorem dX12_init_136 : decode cX12_init 136 = .ok (.putfield 80, 3) := by decide +kernel
theorem dX12_init_139 : decode cX12_init 139 = .ok (.aload_n 0, 1) := by decide +kernel
theorem dX12_init_140 : decode cX12_init 140 = .ok (.new 66, 3) := by decide +kernel
theorem dX12_init_143 : decode cX12_init 143 = .ok (.dup, 1) := by decide +kernel
theorem dX12_init_144 : decode cX12_init 144 = .ok (.invokespecial 68, 3) := by decide +kernel
theorem dX12_init_147 : decode cX12_init 147 = .ok (.putfield 83, 3) := by decide +kernel
theorem dX12_init_150 : decode cX12_init 150 = .ok (.aload_n 0, 1) := by decide +kernel
theorem dX12_init_151 : decode cX12_init 151 = .ok (.sipush 128, 3) := by decide +kernel
theorem dX12_init_154 : decode cX12_init 154 = .ok (.newarray .int, 2) := by decide +kernel
theorem dX12_init_156 : decode cX12_init 156 = .ok (.putfield 86, 3) := by decide +kernel
theorem dX12_init_159 : decode cX12_init 159 = .ok (.return_, 1) := by decide +kernel
theorem dX12_feed_0 : decode cX12_feed 0 = .ok (.aload_n 0, 1) := by decide +kernel
theorem dX12_feed_1 : decode cX12_feed 1 = .ok (.getfield 13, 3) := by decide +kernel
theorem dX12_feed_4 : decode cX12_feed 4 = .ok (.bipush 20, 2) := by decide +kernel
theorem dX12_feed_6 : decode cX12_feed 6 = .ok (.iadd, 1) := by decide +kernel
theorem dX12_feed_7 : decode cX12_feed 7 = .ok (.sipush 700, 3) := by decide +kernel
theorem dX12_feed_10 : decode cX12_feed 10 = .ok (.if_icmp .le 5, 3) := by decide +kernel
theorem dX12_feed_13 : decode cX12_feed 13 = .ok (.iconst (-1), 1) := by decide +kernel
theorem dX12_feed_14 : decode cX12_feed 14 = .ok (.ireturn, 1) := by decide +kernel
theorem dX12_feed_15 : decode cX12_feed 15 = .ok (.aload_n 0, 1) := by decide +kernel
theorem dX12_feed_16 : decode cX12_feed 16 = .ok (.iload_n 1, 1) := by decide +kernel
theorem dX12_feed_17 : decode cX12_feed 17 = .ok (.invokevirtual 89, 3) := by decide +kernel
theorem dX12_feed_20 : decode cX12_feed 20 = .ok (.aload_n 0, 1) := by decide +kernel
theorem dX12_feed_21 : decode cX12_feed 21 = .ok (.iload_n 2, 1) := by decide +kernel
theorem dX12_feed_22 : decode cX12_feed 22 = .ok (.invokevirtual 89, 3) := by decide +kernel
theorem dX12_feed_25 : decode cX12_feed 25 = .ok (.aload_n 0, 1) := by decide +kernel
theorem dX12_feed_26 : decode cX12_feed 26 = .ok (.iload_n 3, 1) := by decide +kernel
theorem dX12_feed_27 : decode cX12_feed 27 = .ok (.invokevirtual 89, 3) := by decide +kernel
theorem dX12_feed_30 : decode cX12_feed 30 = .ok (.aload_n 0, 1) := by decide +kernel
theorem dX12_feed_31 : decode cX12_feed 31 = .ok (.iload 4, 2) := by decide +kernel
theorem dX12_feed_33 : decode cX12_feed 33 = .ok (.invokevirtual 89, 3) := by decide +kernel
theorem dX12_feed_36 : decode cX12_feed 36 = .ok (.aload_n 0, 1) := by decide +kernel
theorem dX12_feed_37 : decode cX12_feed 37 = .ok (.iload 5, 2) := by decide +kernel
theorem dX12_feed_39 : decode cX12_feed 39 = .ok (.invokevirtual 89, 3) := by decide +kernel
theorem dX12_feed_42 : decode cX12_feed 42 = .ok (.aload_n 0, 1) := by decide +kernel
theorem dX12_feed_43 : decode cX12_feed 43 = .ok (.getfield 13, 3) := by decide +kernel
theorem dX12_feed_46 : decode cX12_feed 46 = .ok (.ireturn, 1) := by decide +kernel
theorem dX12_tapeNumber_0 : decode cX12_tapeNumber 0 = .ok (.bipush 24, 2) := by decide +kernel
theorem dX12_tapeNumber_2 : decode cX12_tapeNumber 2 = .ok (.istore_n 2, 1) := by decide +kernel
theorem dX12_tapeNumber_3 : decode cX12_tapeNumber 3 = .ok (.iload_n 2, 1) := by decide +kernel
theorem dX12_tapeNumber_4 : decode cX12_tapeNumber 4 = .ok (.ifCond .lt 44, 3) := by decide +kernel
theorem dX12_tapeNumber_7 : decode cX12_tapeNumber 7 = .ok (.aload_n 0, 1) := by decide +kernel
theorem dX12_tapeNumber_8 : decode cX12_tapeNumber 8 = .ok (.getfield 13, 3) := by decide +kernel
theorem dX12_tapeNumber_11 : decode cX12_tapeNumber 11 = .ok (.aload_n 0, 1) := by decide +kernel
theorem dX12_tapeNumber_12 : decode cX12_tapeNumber 12 = .ok (.getfield 9, 3) := by decide +kernel
theorem dX12_tapeNumber_15 : decode cX12_tapeNumber 15 = .ok (.arraylength, 1) := by decide +kernel
theorem dX12_tapeNumber_16 : decode cX12_tapeNumber 16 = .ok (.if_icmp .ge 26, 3) := by decide +kernel
theorem dX12_tapeNumber_19 : decode cX12_tapeNumber 19 = .ok (.aload_n 0, 1) := by decide +kernel
theorem dX12_tapeNumber_20 : decode cX12_tapeNumber 20 = .ok (.getfield 9, 3) := by decide +kernel
theorem dX12_tapeNumber_23 : decode cX12_tapeNumber 23 = .ok (.aload_n 0, 1) := by decide +kernel
theorem dX12_tapeNumber_24 : decode cX12_tapeNumber 24 = .ok (.getfield 13, 3) := by decide +kernel
theorem dX12_tapeNumber_27 : decode cX12_tapeNumber 27 = .ok (.iload_n 1, 1) := by decide +kernel
theorem dX12_tapeNumber_28 : decode cX12_tapeNumber 28 = .ok (.iload_n 2, 1) := by decide +kernel
theorem dX12_tapeNumber_29 : decode cX12_tapeNumber 29 = .ok (.ishr, 1) := by decide +kernel
theorem dX12_tapeNumber_30 : decode cX12_tapeNumber 30 = .ok (.i2b, 1) := by decide +kernel
theorem dX12_tapeNumber_31 : decode cX12_tapeNumber 31 = .ok (.bastore, 1) := by decide +kernel
theorem dX12_tapeNumber_32 : decode cX12_tapeNumber 32 = .ok (.aload_n 0, 1) := by decide +kernel
theorem dX12_tapeNumber_33 : decode cX12_tapeNumber 33 = .ok (.dup, 1) := by decide +kernel
theorem dX12_tapeNumber_34 : decode cX12_tapeNumber 34 = .ok (.getfield 13, 3) := by decide +kernel
theorem dX12_tapeNumber_37 : decode cX12_tapeNumber 37 = .ok (.iconst 1, 1) := by decide +kernel
theorem dX12_tapeNumber_38 : decode cX12_tapeNumber 38 = .ok (.iadd, 1) := by decide +kernel
theorem dX12_tapeNumber_39 : decode cX12_tapeNumber 39 = .ok (.putfield 13, 3) := by decide +kernel
theorem dX12_tapeNumber_42 : decode cX12_tapeNumber 42 = .ok (.iinc 2 (-8), 3) := by decide +kernel
theorem dX12_tapeNumber_45 : decode cX12_tapeNumber 45 = .ok (.goto (-42), 3) := by decide +kernel
theorem dX12_tapeNumber_48 : decode cX12_tapeNumber 48 = .ok (.return_, 1) := by decide +kernel
theorem dX12_land_0 : decode cX12_land 0 = .ok (.iload_n 1, 1) := by decide +kernel
theorem dX12_land_1 : decode cX12_land 1 = .ok (.ifCond .lt 11, 3) := by decide +kernel
theorem dX12_land_4 : decode cX12_land 4 = .ok (.iload_n 1, 1) := by decide +kernel
theorem dX12_land_5 : decode cX12_land 5 = .ok (.aload_n 0, 1) := by decide +kernel
theorem dX12_land_6 : decode cX12_land 6 = .ok (.getfield 13, 3) := by decide +kernel
theorem dX12_land_9 : decode cX12_land 9 = .ok (.if_icmp .le 13, 3) := by decide +kernel
theorem dX12_land_12 : decode cX12_land 12 = .ok (.new 93, 3) := by decide +kernel
theorem dX12_land_15 : decode cX12_land 15 = .ok (.dup, 1) := by decide +kernel
theorem dX12_land_16 : decode cX12_land 16 = .ok (.ldc 95, 2) := by decide +kernel
theorem dX12_land_18 : decode cX12_land 18 = .ok (.invokespecial 97, 3) := by decide +kernel
theorem dX12_land_21 : decode cX12_land 21 = .ok (.athrow, 1) := by decide +kernel
theorem dX12_land_22 : decode cX12_land 22 = .ok (.aload_n 0, 1) := by decide +kernel
theorem dX12_land_23 : decode cX12_land 23 = .ok (.iconst 0, 1) := by decide +kernel
theorem dX12_land_24 : decode cX12_land 24 = .ok (.putfield 13, 3) := by decide +kernel
theorem dX12_land_27 : decode cX12_land 27 = .ok (.aload_n 0, 1) := by decide +kernel
theorem dX12_land_28 : decode cX12_land 28 = .ok (.getfield 29, 3) := by decide +kernel
theorem dX12_land_31 : decode cX12_land 31 = .ok (.iload_n 1, 1) := by decide +kernel
theorem dX12_land_32 : decode cX12_land 32 = .ok (.invokevirtual 100, 3) := by decide +kernel
theorem dX12_land_35 : decode cX12_land 35 = .ok (.istore_n 2, 1) := by decide +kernel
theorem dX12_land_36 : decode cX12_land 36 = .ok (.iload_n 2, 1) := by decide +kernel
theorem dX12_land_37 : decode cX12_land 37 = .ok (.ifCond .eq 26, 3) := by decide +kernel
theorem dX12_land_40 : decode cX12_land 40 = .ok (.aload_n 0, 1) := by decide +kernel
theorem dX12_land_41 : decode cX12_land 41 = .ok (.aload_n 0, 1) := by decide +kernel
theorem dX12_land_42 : decode cX12_land 42 = .ok (.getfield 29, 3) := by decide +kernel
theorem dX12_land_45 : decode cX12_land 45 = .ok (.getfield 104, 3) := by decide +kernel
theorem dX12_land_48 : decode cX12_land 48 = .ok (.putfield 17, 3) := by decide +kernel
theorem dX12_land_51 : decode cX12_land 51 = .ok (.aload_n 0, 1) := by decide +kernel
theorem dX12_land_52 : decode cX12_land 52 = .ok (.getfield 20, 3) := by decide +kernel
theorem dX12_land_55 : decode cX12_land 55 = .ok (.iconst 0, 1) := by decide +kernel
theorem dX12_land_56 : decode cX12_land 56 = .ok (.dup2, 1) := by decide +kernel
theorem dX12_land_57 : decode cX12_land 57 = .ok (.iaload, 1) := by decide +kernel
theorem dX12_land_58 : decode cX12_land 58 = .ok (.iconst 1, 1) := by decide +kernel
theorem dX12_land_59 : decode cX12_land 59 = .ok (.iadd, 1) := by decide +kernel
theorem dX12_land_60 : decode cX12_land 60 = .ok (.iastore, 1) := by decide +kernel
theorem dX12_land_61 : decode cX12_land 61 = .ok (.iload_n 2, 1) := by decide +kernel
theorem dX12_land_62 : decode cX12_land 62 = .ok (.ireturn, 1) := by decide +kernel
theorem dX12_land_63 : decode cX12_land 63 = .ok (.aload_n 0, 1) := by decide +kernel
theorem dX12_land_64 : decode cX12_land 64 = .ok (.iconst (-1), 1) := by decide +kernel
theorem dX12_land_65 : decode cX12_land 65 = .ok (.putfield 17, 3) := by decide +kernel
theorem dX12_land_68 : decode cX12_land 68 = .ok (.aload_n 0, 1) := by decide +kernel
theorem dX12_land_69 : decode cX12_land 69 = .ok (.getfield 29, 3) := by decide +kernel
theorem dX12_land_72 : decode cX12_land 72 = .ok (.getfield 107, 3) := by decide +kernel
theorem dX12_land_75 : decode cX12_land 75 = .ok (.astore_n 3, 1) := by decide +kernel
theorem dX12_land_76 : decode cX12_land 76 = .ok (.aload_n 0, 1) := by decide +kernel
theorem dX12_land_77 : decode cX12_land 77 = .ok (.getfield 29, 3) := by decide +kernel
theorem dX12_land_80 : decode cX12_land 80 = .ok (.aload_n 0, 1) := by decide +kernel
theorem dX12_land_81 : decode cX12_land 81 = .ok (.getfield 36, 3) := by decide +kernel
theorem dX12_land_84 : decode cX12_land 84 = .ok (.getfield 111, 3) := by decide +kernel
theorem dX12_land_87 : decode cX12_land 87 = .ok (.putfield 107, 3) := by decide +kernel
theorem dX12_land_90 : decode cX12_land 90 = .ok (.aload_n 0, 1) := by decide +kernel
theorem dX12_land_91 : decode cX12_land 91 = .ok (.getfield 36, 3) := by decide +kernel
theorem dX12_land_94 : decode cX12_land 94 = .ok (.aload_n 3, 1) := by decide +kernel
theorem dX12_land_95 : decode cX12_land 95 = .ok (.putfield 111, 3) := by decide +kernel
theorem dX12_land_98 : decode cX12_land 98 = .ok (.aload_n 0, 1) := by decide +kernel
theorem dX12_land_99 : decode cX12_land 99 = .ok (.getfield 52, 3) := by decide +kernel
theorem dX12_land_102 : decode cX12_land 102 = .ok (.aload_n 0, 1) := by decide +kernel
theorem dX12_land_103 : decode cX12_land 103 = .ok (.getfield 29, 3) := by decide +kernel
theorem dX12_land_106 : decode cX12_land 106 = .ok (.getfield 112, 3) := by decide +kernel
theorem dX12_land_109 : decode cX12_land 109 = .ok (.invokevirtual 115, 3) := by decide +kernel
theorem dX12_land_112 : decode cX12_land 112 = .ok (.aload_n 0, 1) := by decide +kernel
theorem dX12_land_113 : decode cX12_land 113 = .ok (.getfield 62, 3) := by decide +kernel
theorem dX12_land_116 : decode cX12_land 116 = .ok (.iconst 0, 1) := by decide +kernel
theorem dX12_land_117 : decode cX12_land 117 = .ok (.putfield 119, 3) := by decide +kernel
theorem dX12_land_120 : decode cX12_land 120 = .ok (.aload_n 0, 1) := by decide +kernel
theorem dX12_land_121 : decode cX12_land 121 = .ok (.getfield 69, 3) := by decide +kernel
theorem dX12_land_124 : decode cX12_land 124 = .ok (.iconst 0, 1) := by decide +kernel
theorem dX12_land_125 : decode cX12_land 125 = .ok (.putfield 122, 3) := by decide +kernel
theorem dX12_land_128 : decode cX12_land 128 = .ok (.aload_n 0, 1) := by decide +kernel
theorem dX12_land_129 : decode cX12_land 129 = .ok (.iconst 0, 1) := by decide +kernel
theorem dX12_land_130 : decode cX12_land 130 = .ok (.putfield 73, 3) := by decide +kernel
theorem dX12_land_133 : decode cX12_land 133 = .ok (.iconst 0, 1) := by decide +kernel
theorem dX12_land_134 : decode cX12_land 134 = .ok (.ireturn, 1) := by decide +kernel
theorem dX12_fault_0 : decode cX12_fault 0 = .ok (.aload_n 0, 1) := by decide +kernel
theorem dX12_fault_1 : decode cX12_fault 1 = .ok (.getfield 17, 3) := by decide +kernel
theorem dX12_fault_4 : decode cX12_fault 4 = .ok (.ireturn, 1) := by decide +kernel
theorem dX12_count_0 : decode cX12_count 0 = .ok (.iload_n 1, 1) := by decide +kernel
