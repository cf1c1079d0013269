theorem dX13_readsCity_29 : decode cX13_readsCity 29 = .ok (.aload_n 0, 1) := by decide +kernel
theorem dX13_readsCity_30 : decode cX13_readsCity 30 = .ok (.getfield 95, 3) := by decide +kernel
theorem dX13_readsCity_33 : decode cX13_readsCity 33 = .ok (.iconst 0, 1) := by decide +kernel
theorem dX13_readsCity_34 : decode cX13_readsCity 34 = .ok (.aload_n 0, 1) := by decide +kernel
theorem dX13_readsCity_35 : decode cX13_readsCity 35 = .ok (.iconst 0, 1) := by decide +kernel
theorem dX13_readsCity_36 : decode cX13_readsCity 36 = .ok (.sipush 999, 3) := by decide +kernel
theorem dX13_readsCity_39 : decode cX13_readsCity 39 = .ok (.invokevirtual 213, 3) := by decide +kernel
theorem dX13_readsCity_42 : decode cX13_readsCity 42 = .ok (.iastore, 1) := by decide +kernel
theorem dX13_readsCity_43 : decode cX13_readsCity 43 = .ok (.aload_n 0, 1) := by decide +kernel
theorem dX13_readsCity_44 : decode cX13_readsCity 44 = .ok (.getfield 95, 3) := by decide +kernel
theorem dX13_readsCity_47 : decode cX13_readsCity 47 = .ok (.iconst 1, 1) := by decide +kernel
theorem dX13_readsCity_48 : decode cX13_readsCity 48 = .ok (.aload_n 0, 1) := by decide +kernel
theorem dX13_readsCity_49 : decode cX13_readsCity 49 = .ok (.iconst 0, 1) := by decide +kernel
theorem dX13_readsCity_50 : decode cX13_readsCity 50 = .ok (.bipush 99, 2) := by decide +kernel
theorem dX13_readsCity_52 : decode cX13_readsCity 52 = .ok (.invokevirtual 213, 3) := by decide +kernel
theorem dX13_readsCity_55 : decode cX13_readsCity 55 = .ok (.iastore, 1) := by decide +kernel
theorem dX13_readsCity_56 : decode cX13_readsCity 56 = .ok (.aload_n 0, 1) := by decide +kernel
theorem dX13_readsCity_57 : decode cX13_readsCity 57 = .ok (.getfield 95, 3) := by decide +kernel
theorem dX13_readsCity_60 : decode cX13_readsCity 60 = .ok (.iconst 2, 1) := by decide +kernel
theorem dX13_readsCity_61 : decode cX13_readsCity 61 = .ok (.aload_n 0, 1) := by decide +kernel
theorem dX13_readsCity_62 : decode cX13_readsCity 62 = .ok (.iconst 0, 1) := by decide +kernel
theorem dX13_readsCity_63 : decode cX13_readsCity 63 = .ok (.sipush 999, 3) := by decide +kernel
theorem dX13_readsCity_66 : decode cX13_readsCity 66 = .ok (.invokevirtual 213, 3) := by decide +kernel
theorem dX13_readsCity_69 : decode cX13_readsCity 69 = .ok (.iastore, 1) := by decide +kernel
theorem dX13_readsCity_70 : decode cX13_readsCity 70 = .ok (.return_, 1) := by decide +kernel
theorem dX13_readsDeed_0 : decode cX13_readsDeed 0 = .ok (.aload_n 0, 1) := by decide +kernel
theorem dX13_readsDeed_1 : decode cX13_readsDeed 1 = .ok (.getfield 271, 3) := by decide +kernel
theorem dX13_readsDeed_4 : decode cX13_readsDeed 4 = .ok (.bipush 7, 2) := by decide +kernel
theorem dX13_readsDeed_6 : decode cX13_readsDeed 6 = .ok (.if_icmp .ne 8, 3) := by decide +kernel
theorem dX13_readsDeed_9 : decode cX13_readsDeed 9 = .ok (.aload_n 0, 1) := by decide +kernel
theorem dX13_readsDeed_10 : decode cX13_readsDeed 10 = .ok (.iconst 2, 1) := by decide +kernel
theorem dX13_readsDeed_11 : decode cX13_readsDeed 11 = .ok (.invokevirtual 207, 3) := by decide +kernel
theorem dX13_readsDeed_14 : decode cX13_readsDeed 14 = .ok (.aload_n 0, 1) := by decide +kernel
theorem dX13_readsDeed_15 : decode cX13_readsDeed 15 = .ok (.invokevirtual 200, 3) := by decide +kernel
theorem dX13_readsDeed_18 : decode cX13_readsDeed 18 = .ok (.ifCond .ne 4, 3) := by decide +kernel
theorem dX13_readsDeed_21 : decode cX13_readsDeed 21 = .ok (.return_, 1) := by decide +kernel
theorem dX13_readsDeed_22 : decode cX13_readsDeed 22 = .ok (.aload_n 0, 1) := by decide +kernel
theorem dX13_readsDeed_23 : decode cX13_readsDeed 23 = .ok (.invokevirtual 204, 3) := by decide +kernel
theorem dX13_readsDeed_26 : decode cX13_readsDeed 26 = .ok (.aload_n 0, 1) := by decide +kernel
theorem dX13_readsDeed_27 : decode cX13_readsDeed 27 = .ok (.getfield 62, 3) := by decide +kernel
theorem dX13_readsDeed_30 : decode cX13_readsDeed 30 = .ok (.aload_n 0, 1) := by decide +kernel
theorem dX13_readsDeed_31 : decode cX13_readsDeed 31 = .ok (.getfield 271, 3) := by decide +kernel
theorem dX13_readsDeed_34 : decode cX13_readsDeed 34 = .ok (.aload_n 0, 1) := by decide +kernel
theorem dX13_readsDeed_35 : decode cX13_readsDeed 35 = .ok (.iconst 0, 1) := by decide +kernel
theorem dX13_readsDeed_36 : decode cX13_readsDeed 36 = .ok (.bipush 99, 2) := by decide +kernel
theorem dX13_readsDeed_38 : decode cX13_readsDeed 38 = .ok (.invokevirtual 213, 3) := by decide +kernel
theorem dX13_readsDeed_41 : decode cX13_readsDeed 41 = .ok (.iastore, 1) := by decide +kernel
theorem dX13_readsDeed_42 : decode cX13_readsDeed 42 = .ok (.aload_n 0, 1) := by decide +kernel
theorem dX13_readsDeed_43 : decode cX13_readsDeed 43 = .ok (.getfield 65, 3) := by decide +kernel
theorem dX13_readsDeed_46 : decode cX13_readsDeed 46 = .ok (.aload_n 0, 1) := by decide +kernel
theorem dX13_readsDeed_47 : decode cX13_readsDeed 47 = .ok (.getfield 271, 3) := by decide +kernel
theorem dX13_readsDeed_50 : decode cX13_readsDeed 50 = .ok (.aload_n 0, 1) := by decide +kernel
theorem dX13_readsDeed_51 : decode cX13_readsDeed 51 = .ok (.bipush 20, 2) := by decide +kernel
theorem dX13_readsDeed_53 : decode cX13_readsDeed 53 = .ok (.invokevirtual 274, 3) := by decide +kernel
theorem dX13_readsDeed_56 : decode cX13_readsDeed 56 = .ok (.iastore, 1) := by decide +kernel
theorem dX13_readsDeed_57 : decode cX13_readsDeed 57 = .ok (.aload_n 0, 1) := by decide +kernel
theorem dX13_readsDeed_58 : decode cX13_readsDeed 58 = .ok (.getfield 68, 3) := by decide +kernel
theorem dX13_readsDeed_61 : decode cX13_readsDeed 61 = .ok (.aload_n 0, 1) := by decide +kernel
theorem dX13_readsDeed_62 : decode cX13_readsDeed 62 = .ok (.getfield 271, 3) := by decide +kernel
theorem dX13_readsDeed_65 : decode cX13_readsDeed 65 = .ok (.aload_n 0, 1) := by decide +kernel
theorem dX13_readsDeed_66 : decode cX13_readsDeed 66 = .ok (.bipush 99, 2) := by decide +kernel
theorem dX13_readsDeed_68 : decode cX13_readsDeed 68 = .ok (.invokevirtual 274, 3) := by decide +kernel
theorem dX13_readsDeed_71 : decode cX13_readsDeed 71 = .ok (.iastore, 1) := by decide +kernel
theorem dX13_readsDeed_72 : decode cX13_readsDeed 72 = .ok (.aload_n 0, 1) := by decide +kernel
theorem dX13_readsDeed_73 : decode cX13_readsDeed 73 = .ok (.getfield 71, 3) := by decide +kernel
theorem dX13_readsDeed_76 : decode cX13_readsDeed 76 = .ok (.aload_n 0, 1) := by decide +kernel
theorem dX13_readsDeed_77 : decode cX13_readsDeed 77 = .ok (.getfield 271, 3) := by decide +kernel
theorem dX13_readsDeed_80 : decode cX13_readsDeed 80 = .ok (.aload_n 0, 1) := by decide +kernel
theorem dX13_readsDeed_81 : decode cX13_readsDeed 81 = .ok (.bipush 20, 2) := by decide +kernel
theorem dX13_readsDeed_83 : decode cX13_readsDeed 83 = .ok (.invokevirtual 274, 3) := by decide +kernel
theorem dX13_readsDeed_86 : decode cX13_readsDeed 86 = .ok (.iastore, 1) := by decide +kernel
theorem dX13_readsDeed_87 : decode cX13_readsDeed 87 = .ok (.aload_n 0, 1) := by decide +kernel
theorem dX13_readsDeed_88 : decode cX13_readsDeed 88 = .ok (.invokevirtual 200, 3) := by decide +kernel
theorem dX13_readsDeed_91 : decode cX13_readsDeed 91 = .ok (.ifCond .eq 13, 3) := by decide +kernel
theorem dX13_readsDeed_94 : decode cX13_readsDeed 94 = .ok (.aload_n 0, 1) := by decide +kernel
theorem dX13_readsDeed_95 : decode cX13_readsDeed 95 = .ok (.dup, 1) := by decide +kernel
theorem dX13_readsDeed_96 : decode cX13_readsDeed 96 = .ok (.getfield 271, 3) := by decide +kernel
theorem dX13_readsDeed_99 : decode cX13_readsDeed 99 = .ok (.iconst 1, 1) := by decide +kernel
theorem dX13_readsDeed_100 : decode cX13_readsDeed 100 = .ok (.iadd, 1) := by decide +kernel
theorem dX13_readsDeed_101 : decode cX13_readsDeed 101 = .ok (.putfield 271, 3) := by decide +kernel
theorem dX13_readsDeed_104 : decode cX13_readsDeed 104 = .ok (.return_, 1) := by decide +kernel
theorem dX13_readsWay_0 : decode cX13_readsWay 0 = .ok (.aload_n 0, 1) := by decide +kernel
theorem dX13_readsWay_1 : decode cX13_readsWay 1 = .ok (.getfield 74, 3) := by decide +kernel
theorem dX13_readsWay_4 : decode cX13_readsWay 4 = .ok (.iload_n 1, 1) := by decide +kernel
theorem dX13_readsWay_5 : decode cX13_readsWay 5 = .ok (.iaload, 1) := by decide +kernel
theorem dX13_readsWay_6 : decode cX13_readsWay 6 = .ok (.ifCond .le 8, 3) := by decide +kernel
theorem dX13_readsWay_9 : decode cX13_readsWay 9 = .ok (.aload_n 0, 1) := by decide +kernel
theorem dX13_readsWay_10 : decode cX13_readsWay 10 = .ok (.iconst 5, 1) := by decide +kernel
theorem dX13_readsWay_11 : decode cX13_readsWay 11 = .ok (.invokevirtual 207, 3) := by decide +kernel
theorem dX13_readsWay_14 : decode cX13_readsWay 14 = .ok (.aload_n 0, 1) := by decide +kernel
theorem dX13_readsWay_15 : decode cX13_readsWay 15 = .ok (.invokevirtual 200, 3) := by decide +kernel
theorem dX13_readsWay_18 : decode cX13_readsWay 18 = .ok (.ifCond .ne 4, 3) := by decide +kernel
theorem dX13_readsWay_21 : decode cX13_readsWay 21 = .ok (.return_, 1) := by decide +kernel
theorem dX13_readsWay_22 : decode cX13_readsWay 22 = .ok (.aload_n 0, 1) := by decide +kernel
theorem dX13_readsWay_23 : decode cX13_readsWay 23 = .ok (.invokevirtual 204, 3) := by decide +kernel
theorem dX13_readsWay_26 : decode cX13_readsWay 26 = .ok (.iconst 1, 1) := by decide +kernel
theorem dX13_readsWay_27 : decode cX13_readsWay 27 = .ok (.istore_n 2, 1) := by decide +kernel
theorem dX13_readsWay_28 : decode cX13_readsWay 28 = .ok (.iload_n 2, 1) := by decide +kernel
theorem dX13_readsWay_29 : decode cX13_readsWay 29 = .ok (.ifCond .eq 98, 3) := by decide +kernel
theorem dX13_readsWay_32 : decode cX13_readsWay 32 = .ok (.aload_n 0, 1) := by decide +kernel
theorem dX13_readsWay_33 : decode cX13_readsWay 33 = .ok (.invokevirtual 200, 3) := by decide +kernel
theorem dX13_readsWay_36 : decode cX13_readsWay 36 = .ok (.ifCond .eq 91, 3) := by decide +kernel
theorem dX13_readsWay_39 : decode cX13_readsWay 39 = .ok (.aload_n 0, 1) := by decide +kernel
theorem dX13_readsWay_40 : decode cX13_readsWay 40 = .ok (.getfield 74, 3) := by decide +kernel
theorem dX13_readsWay_43 : decode cX13_readsWay 43 = .ok (.iload_n 1, 1) := by decide +kernel
theorem dX13_readsWay_44 : decode cX13_readsWay 44 = .ok (.iaload, 1) := by decide +kernel
theorem dX13_readsWay_45 : decode cX13_readsWay 45 = .ok (.bipush 6, 2) := by decide +kernel
theorem dX13_readsWay_47 : decode cX13_readsWay 47 = .ok (.if_icmp .ne 16, 3) := by decide +kernel
theorem dX13_readsWay_50 : decode cX13_readsWay 50 = .ok (.aload_n 0, 1) := by decide +kernel
theorem dX13_readsWay_51 : decode cX13_readsWay 51 = .ok (.getfield 174, 3) := by decide +kernel
theorem dX13_readsWay_54 : decode cX13_readsWay 54 = .ok (.iconst 2, 1) := by decide +kernel
theorem dX13_readsWay_55 : decode cX13_readsWay 55 = .ok (.if_icmp .ne 8, 3) := by decide +kernel
theorem dX13_readsWay_58 : decode cX13_readsWay 58 = .ok (.aload_n 0, 1) := by decide +kernel
theorem dX13_readsWay_59 : decode cX13_readsWay 59 = .ok (.iconst 2, 1) := by decide +kernel
theorem dX13_readsWay_60 : decode cX13_readsWay 60 = .ok (.invokevirtual 207, 3) := by decide +kernel
theorem dX13_readsWay_63 : decode cX13_readsWay 63 = .ok (.aload_n 0, 1) := by decide +kernel
theorem dX13_readsWay_64 : decode cX13_readsWay 64 = .ok (.aload_n 0, 1) := by decide +kernel
theorem dX13_readsWay_65 : decode cX13_readsWay 65 = .ok (.getfield 271, 3) := by decide +kernel
theorem dX13_readsWay_68 : decode cX13_readsWay 68 = .ok (.invokevirtual 277, 3) := by decide +kernel
theorem dX13_readsWay_71 : decode cX13_readsWay 71 = .ok (.istore_n 3, 1) := by decide +kernel
theorem dX13_readsWay_72 : decode cX13_readsWay 72 = .ok (.aload_n 0, 1) := by decide +kernel
theorem dX13_readsWay_73 : decode cX13_readsWay 73 = .ok (.invokevirtual 200, 3) := by decide +kernel
theorem dX13_readsWay_76 : decode cX13_readsWay 76 = .ok (.ifCond .ne 4, 3) := by decide +kernel
theorem dX13_readsWay_79 : decode cX13_readsWay 79 = .ok (.return_, 1) := by decide +kernel
theorem dX13_readsWay_80 : decode cX13_readsWay 80 = .ok (.aload_n 0, 1) := by decide +kernel
theorem dX13_readsWay_81 : decode cX13_readsWay 81 = .ok (.getfield 95, 3) := by decide +kernel
theorem dX13_readsWay_84 : decode cX13_readsWay 84 = .ok (.bipush 13, 2) := by decide +kernel
theorem dX13_readsWay_86 : decode cX13_readsWay 86 = .ok (.bipush 6, 2) := by decide +kernel
theorem dX13_readsWay_88 : decode cX13_readsWay 88 = .ok (.iload_n 1, 1) := by decide +kernel
theorem dX13_readsWay_89 : decode cX13_readsWay 89 = .ok (.imul, 1) := by decide +kernel
theorem dX13_readsWay_90 : decode cX13_readsWay 90 = .ok (.iadd, 1) := by decide +kernel
theorem dX13_readsWay_91 : decode cX13_readsWay 91 = .ok (.aload_n 0, 1) := by decide +kernel
theorem dX13_readsWay_92 : decode cX13_readsWay 92 = .ok (.getfield 74, 3) := by decide +kernel
theorem dX13_readsWay_95 : decode cX13_readsWay 95 = .ok (.iload_n 1, 1) := by decide +kernel
theorem dX13_readsWay_96 : decode cX13_readsWay 96 = .ok (.iaload, 1) := by decide +kernel
theorem dX13_readsWay_97 : decode cX13_readsWay 97 = .ok (.iadd, 1) := by decide +kernel
theorem dX13_readsWay_98 : decode cX13_readsWay 98 = .ok (.iload_n 3, 1) := by decide +kernel
theorem dX13_readsWay_99 : decode cX13_readsWay 99 = .ok (.iastore, 1) := by decide +kernel
theorem dX13_readsWay_100 : decode cX13_readsWay 100 = .ok (.aload_n 0, 1) := by decide +kernel
theorem dX13_readsWay_101 : decode cX13_readsWay 101 = .ok (.getfield 74, 3) := by decide +kernel
theorem dX13_readsWay_104 : decode cX13_readsWay 104 = .ok (.iload_n 1, 1) := by decide +kernel
theorem dX13_readsWay_105 : decode cX13_readsWay 105 = .ok (.dup2, 1) := by decide +kernel
theorem dX13_readsWay_106 : decode cX13_readsWay 106 = .ok (.iaload, 1) := by decide +kernel
theorem dX13_readsWay_107 : decode cX13_readsWay 107 = .ok (.iconst 1, 1) := by decide +kernel
theorem dX13_readsWay_108 : decode cX13_readsWay 108 = .ok (.iadd, 1) := by decide +kernel
theorem dX13_readsWay_109 : decode cX13_readsWay 109 = .ok (.iastore, 1) := by decide +kernel
theorem dX13_readsWay_110 : decode cX13_readsWay 110 = .ok (.aload_n 0, 1) := by decide +kernel
theorem dX13_readsWay_111 : decode cX13_readsWay 111 = .ok (.getfield 174, 3) := by decide +kernel
theorem dX13_readsWay_114 : decode cX13_readsWay 114 = .ok (.iconst 2, 1) := by decide +kernel
theorem dX13_readsWay_115 : decode cX13_readsWay 115 = .ok (.if_icmp .ne 7, 3) := by decide +kernel
theorem dX13_readsWay_118 : decode cX13_readsWay 118 = .ok (.iconst 1, 1) := by decide +kernel
theorem dX13_readsWay_119 : decode cX13_readsWay 119 = .ok (.goto 4, 3) := by decide +kernel
theorem dX13_readsWay_122 : decode cX13_readsWay 122 = .ok (.iconst 0, 1) := by decide +kernel
theorem dX13_readsWay_123 : decode cX13_readsWay 123 = .ok (.istore_n 2, 1) := by decide +kernel
theorem dX13_readsWay_124 : decode cX13_readsWay 124 = .ok (.goto (-96), 3) := by decide +kernel
theorem dX13_readsWay_127 : decode cX13_readsWay 127 = .ok (.return_, 1) := by decide +kernel
theorem dX13_readsHarvests_0 : decode cX13_readsHarvests 0 = .ok (.aload_n 0, 1) := by decide +kernel
theorem dX13_readsHarvests_1 : decode cX13_readsHarvests 1 = .ok (.getfield 280, 3) := by decide +kernel
theorem dX13_readsHarvests_4 : decode cX13_readsHarvests 4 = .ok (.ifCond .le 8, 3) := by decide +kernel
theorem dX13_readsHarvests_7 : decode cX13_readsHarvests 7 = .ok (.aload_n 0, 1) := by decide +kernel
theorem dX13_readsHarvests_8 : decode cX13_readsHarvests 8 = .ok (.iconst 5, 1) := by decide +kernel
theorem dX13_readsHarvests_9 : decode cX13_readsHarvests 9 = .ok (.invokevirtual 207, 3) := by decide +kernel
theorem dX13_readsHarvests_12 : decode cX13_readsHarvests 12 = .ok (.aload_n 0, 1) := by decide +kernel
theorem dX13_readsHarvests_13 : decode cX13_readsHarvests 13 = .ok (.invokevirtual 200, 3) := by decide +kernel
theorem dX13_readsHarvests_16 : decode cX13_readsHarvests 16 = .ok (.ifCond .ne 4, 3) := by decide +kernel
theorem dX13_readsHarvests_19 : decode cX13_readsHarvests 19 = .ok (.return_, 1) := by decide +kernel
theorem dX13_readsHarvests_20 : decode cX13_readsHarvests 20 = .ok (.aload_n 0, 1) := by decide +kernel
theorem dX13_readsHarvests_21 : decode cX13_readsHarvests 21 = .ok (.invokevirtual 204, 3) := by decide +kernel
theorem dX13_readsHarvests_24 : decode cX13_readsHarvests 24 = .ok (.iconst 1, 1) := by decide +kernel
theorem dX13_readsHarvests_25 : decode cX13_readsHarvests 25 = .ok (.istore_n 1, 1) := by decide +kernel
theorem dX13_readsHarvests_26 : decode cX13_readsHarvests 26 = .ok (.iload_n 1, 1) := by decide +kernel
theorem dX13_readsHarvests_27 : decode cX13_readsHarvests 27 = .ok (.ifCond .eq 85, 3) := by decide +kernel
theorem dX13_readsHarvests_30 : decode cX13_readsHarvests 30 = .ok (.aload_n 0, 1) := by decide +kernel
theorem dX13_readsHarvests_31 : decode cX13_readsHarvests 31 = .ok (.invokevirtual 200, 3) := by decide +kernel
theorem dX13_readsHarvests_34 : decode cX13_readsHarvests 34 = .ok (.ifCond .eq 78, 3) := by decide +kernel
theorem dX13_readsHarvests_37 : decode cX13_readsHarvests 37 = .ok (.aload_n 0, 1) := by decide +kernel
theorem dX13_readsHarvests_38 : decode cX13_readsHarvests 38 = .ok (.getfield 280, 3) := by decide +kernel
theorem dX13_readsHarvests_41 : decode cX13_readsHarvests 41 = .ok (.bipush 10, 2) := by decide +kernel
theorem dX13_readsHarvests_43 : decode cX13_readsHarvests 43 = .ok (.if_icmp .ne 16, 3) := by decide +kernel
theorem dX13_readsHarvests_46 : decode cX13_readsHarvests 46 = .ok (.aload_n 0, 1) := by decide +kernel
theorem dX13_readsHarvests_47 : decode cX13_readsHarvests 47 = .ok (.getfield 174, 3) := by decide +kernel
theorem dX13_readsHarvests_50 : decode cX13_readsHarvests 50 = .ok (.iconst 2, 1) := by decide +kernel
theorem dX13_readsHarvests_51 : decode cX13_readsHarvests 51 = .ok (.if_icmp .ne 8, 3) := by decide +kernel
theorem dX13_readsHarvests_54 : decode cX13_readsHarvests 54 = .ok (.aload_n 0, 1) := by decide +kernel
theorem dX13_readsHarvests_55 : decode cX13_readsHarvests 55 = .ok (.iconst 2, 1) := by decide +kernel
theorem dX13_readsHarvests_56 : decode cX13_readsHarvests 56 = .ok (.invokevirtual 207, 3) := by decide +kernel
theorem dX13_readsHarvests_59 : decode cX13_readsHarvests 59 = .ok (.aload_n 0, 1) := by decide +kernel
theorem dX13_readsHarvests_60 : decode cX13_readsHarvests 60 = .ok (.iconst 0, 1) := by decide +kernel
theorem dX13_readsHarvests_61 : decode cX13_readsHarvests 61 = .ok (.bipush 99, 2) := by decide +kernel
theorem dX13_readsHarvests_63 : decode cX13_readsHarvests 63 = .ok (.invokevirtual 213, 3) := by decide +kernel
theorem dX13_readsHarvests_66 : decode cX13_readsHarvests 66 = .ok (.istore_n 2, 1) := by decide +kernel
theorem dX13_readsHarvests_67 : decode cX13_readsHarvests 67 = .ok (.aload_n 0, 1) := by decide +kernel
theorem dX13_readsHarvests_68 : decode cX13_readsHarvests 68 = .ok (.invokevirtual 200, 3) := by decide +kernel
theorem dX13_readsHarvests_71 : decode cX13_readsHarvests 71 = .ok (.ifCond .ne 4, 3) := by decide +kernel
theorem dX13_readsHarvests_74 : decode cX13_readsHarvests 74 = .ok (.return_, 1) := by decide +kernel
theorem dX13_readsHarvests_75 : decode cX13_readsHarvests 75 = .ok (.aload_n 0, 1) := by decide +kernel
theorem dX13_readsHarvests_76 : decode cX13_readsHarvests 76 = .ok (.getfield 77, 3) := by decide +kernel
theorem dX13_readsHarvests_79 : decode cX13_readsHarvests 79 = .ok (.aload_n 0, 1) := by decide +kernel
theorem dX13_readsHarvests_80 : decode cX13_readsHarvests 80 = .ok (.getfield 280, 3) := by decide +kernel
theorem dX13_readsHarvests_83 : decode cX13_readsHarvests 83 = .ok (.iload_n 2, 1) := by decide +kernel
theorem dX13_readsHarvests_84 : decode cX13_readsHarvests 84 = .ok (.iastore, 1) := by decide +kernel
theorem dX13_readsHarvests_85 : decode cX13_readsHarvests 85 = .ok (.aload_n 0, 1) := by decide +kernel
theorem dX13_readsHarvests_86 : decode cX13_readsHarvests 86 = .ok (.dup, 1) := by decide +kernel
theorem dX13_readsHarvests_87 : decode cX13_readsHarvests 87 = .ok (.getfield 280, 3) := by decide +kernel
theorem dX13_readsHarvests_90 : decode cX13_readsHarvests 90 = .ok (.iconst 1, 1) := by decide +kernel
theorem dX13_readsHarvests_91 : decode cX13_readsHarvests 91 = .ok (.iadd, 1) := by decide +kernel
theorem dX13_readsHarvests_92 : decode cX13_readsHarvests 92 = .ok (.putfield 280, 3) := by decide +kernel
theorem dX13_readsHarvests_95 : decode cX13_readsHarvests 95 = .ok (.aload_n 0, 1) := by decide +kernel
theorem dX13_readsHarvests_96 : decode cX13_readsHarvests 96 = .ok (.getfield 174, 3) := by decide +kernel
theorem dX13_readsHarvests_99 : decode cX13_readsHarvests 99 = .ok (.iconst 2, 1) := by decide +kernel
theorem dX13_readsHarvests_100 : decode cX13_readsHarvests 100 = .ok (.if_icmp .ne 7, 3) := by decide +kernel
theorem dX13_readsHarvests_103 : decode cX13_readsHarvests 103 = .ok (.iconst 1, 1) := by decide +kernel
theorem dX13_readsHarvests_104 : decode cX13_readsHarvests 104 = .ok (.goto 4, 3) := by decide +kernel
theorem dX13_readsHarvests_107 : decode cX13_readsHarvests 107 = .ok (.iconst 0, 1) := by decide +kernel
theorem dX13_readsHarvests_108 : decode cX13_readsHarvests 108 = .ok (.istore_n 1, 1) := by decide +kernel
theorem dX13_readsHarvests_109 : decode cX13_readsHarvests 109 = .ok (.goto (-83), 3) := by decide +kernel
theorem dX13_readsHarvests_112 : decode cX13_readsHarvests 112 = .ok (.return_, 1) := by decide +kernel
theorem dX13_readsFriend_0 : decode cX13_readsFriend 0 = .ok (.aload_n 0, 1) := by decide +kernel
theorem dX13_readsFriend_1 : decode cX13_readsFriend 1 = .ok (.getfield 283, 3) := by decide +kernel
theorem dX13_readsFriend_4 : decode cX13_readsFriend 4 = .ok (.bipush 6, 2) := by decide +kernel
theorem dX13_readsFriend_6 : decode cX13_readsFriend 6 = .ok (.if_icmp .ne 8, 3) := by decide +kernel
theorem dX13_readsFriend_9 : decode cX13_readsFriend 9 = .ok (.aload_n 0, 1) := by decide +kernel
theorem dX13_readsFriend_10 : decode cX13_readsFriend 10 = .ok (.iconst 2, 1) := by decide +kernel
theorem dX13_readsFriend_11 : decode cX13_readsFriend 11 = .ok (.invokevirtual 207, 3) := by decide +kernel
theorem dX13_readsFriend_14 : decode cX13_readsFriend 14 = .ok (.aload_n 0, 1) := by decide +kernel
theorem dX13_readsFriend_15 : decode cX13_readsFriend 15 = .ok (.invokevirtual 200, 3) := by decide +kernel
theorem dX13_readsFriend_18 : decode cX13_readsFriend 18 = .ok (.ifCond .ne 4, 3) := by decide +kernel
theorem dX13_readsFriend_21 : decode cX13_readsFriend 21 = .ok (.return_, 1) := by decide +kernel
theorem dX13_readsFriend_22 : decode cX13_readsFriend 22 = .ok (.aload_n 0, 1) := by decide +kernel
theorem dX13_readsFriend_23 : decode cX13_readsFriend 23 = .ok (.invokevirtual 204, 3) := by decide +kernel
theorem dX13_readsFriend_26 : decode cX13_readsFriend 26 = .ok (.aload_n 0, 1) := by decide +kernel
theorem dX13_readsFriend_27 : decode cX13_readsFriend 27 = .ok (.getfield 95, 3) := by decide +kernel
theorem dX13_readsFriend_30 : decode cX13_readsFriend 30 = .ok (.bipush 25, 2) := by decide +kernel
theorem dX13_readsFriend_32 : decode cX13_readsFriend 32 = .ok (.aload_n 0, 1) := by decide +kernel
theorem dX13_readsFriend_33 : decode cX13_readsFriend 33 = .ok (.getfield 283, 3) := by decide +kernel
theorem dX13_readsFriend_36 : decode cX13_readsFriend 36 = .ok (.iadd, 1) := by decide +kernel
theorem dX13_readsFriend_37 : decode cX13_readsFriend 37 = .ok (.aload_n 0, 1) := by decide +kernel
theorem dX13_readsFriend_38 : decode cX13_readsFriend 38 = .ok (.bipush 9, 2) := by decide +kernel
theorem dX13_readsFriend_40 : decode cX13_readsFriend 40 = .ok (.invokevirtual 274, 3) := by decide +kernel
theorem dX13_readsFriend_43 : decode cX13_readsFriend 43 = .ok (.iastore, 1) := by decide +kernel
theorem dX13_readsFriend_44 : decode cX13_readsFriend 44 = .ok (.aload_n 0, 1) := by decide +kernel
theorem dX13_readsFriend_45 : decode cX13_readsFriend 45 = .ok (.getfield 80, 3) := by decide +kernel
theorem dX13_readsFriend_48 : decode cX13_readsFriend 48 = .ok (.aload_n 0, 1) := by decide +kernel
theorem dX13_readsFriend_49 : decode cX13_readsFriend 49 = .ok (.getfield 283, 3) := by decide +kernel
theorem dX13_readsFriend_52 : decode cX13_readsFriend 52 = .ok (.aload_n 0, 1) := by decide +kernel
theorem dX13_readsFriend_53 : decode cX13_readsFriend 53 = .ok (.iconst 0, 1) := by decide +kernel
theorem dX13_readsFriend_54 : decode cX13_readsFriend 54 = .ok (.bipush 9, 2) := by decide +kernel
theorem dX13_readsFriend_56 : decode cX13_readsFriend 56 = .ok (.invokevirtual 213, 3) := by decide +kernel
theorem dX13_readsFriend_59 : decode cX13_readsFriend 59 = .ok (.iastore, 1) := by decide +kernel
theorem dX13_readsFriend_60 : decode cX13_readsFriend 60 = .ok (.aload_n 0, 1) := by decide +kernel
theorem dX13_readsFriend_61 : decode cX13_readsFriend 61 = .ok (.invokevirtual 200, 3) := by decide +kernel
theorem dX13_readsFriend_64 : decode cX13_readsFriend 64 = .ok (.ifCond .eq 13, 3) := by decide +kernel
theorem dX13_readsFriend_67 : decode cX13_readsFriend 67 = .ok (.aload_n 0, 1) := by decide +kernel
theorem dX13_readsFriend_68 : decode cX13_readsFriend 68 = .ok (.dup, 1) := by decide +kernel
theorem dX13_readsFriend_69 : decode cX13_readsFriend 69 = .ok (.getfield 283, 3) := by decide +kernel
theorem dX13_readsFriend_72 : decode cX13_readsFriend 72 = .ok (.iconst 1, 1) := by decide +kernel
theorem dX13_readsFriend_73 : decode cX13_readsFriend 73 = .ok (.iadd, 1) := by decide +kernel
theorem dX13_readsFriend_74 : decode cX13_readsFriend 74 = .ok (.putfield 283, 3) := by decide +kernel
theorem dX13_readsFriend_77 : decode cX13_readsFriend 77 = .ok (.return_, 1) := by decide +kernel
theorem dX13_readsFighter_0 : decode cX13_readsFighter 0 = .ok (.iload_n 1, 1) := by decide +kernel
theorem dX13_readsFighter_1 : decode cX13_readsFighter 1 = .ok (.ifCond .eq 10, 3) := by decide +kernel
theorem dX13_readsFighter_4 : decode cX13_readsFighter 4 = .ok (.aload_n 0, 1) := by decide +kernel
theorem dX13_readsFighter_5 : decode cX13_readsFighter 5 = .ok (.getfield 286, 3) := by decide +kernel
theorem dX13_readsFighter_8 : decode cX13_readsFighter 8 = .ok (.goto 7, 3) := by decide +kernel
theorem dX13_readsFighter_11 : decode cX13_readsFighter 11 = .ok (.aload_n 0, 1) := by decide +kernel
theorem dX13_readsFighter_12 : decode cX13_readsFighter 12 = .ok (.getfield 289, 3) := by decide +kernel
theorem dX13_readsFighter_15 : decode cX13_readsFighter 15 = .ok (.bipush 7, 2) := by decide +kernel
theorem dX13_readsFighter_17 : decode cX13_readsFighter 17 = .ok (.if_icmp .ne 8, 3) := by decide +kernel
theorem dX13_readsFighter_20 : decode cX13_readsFighter 20 = .ok (.aload_n 0, 1) := by decide +kernel
theorem dX13_readsFighter_21 : decode cX13_readsFighter 21 = .ok (.iconst 2, 1) := by decide +kernel
theorem dX13_readsFighter_22 : decode cX13_readsFighter 22 = .ok (.invokevirtual 207, 3) := by decide +kernel
theorem dX13_readsFighter_25 : decode cX13_readsFighter 25 = .ok (.aload_n 0, 1) := by decide +kernel
theorem dX13_readsFighter_26 : decode cX13_readsFighter 26 = .ok (.invokevirtual 200, 3) := by decide +kernel
theorem dX13_readsFighter_29 : decode cX13_readsFighter 29 = .ok (.ifCond .ne 4, 3) := by decide +kernel
theorem dX13_readsFighter_32 : decode cX13_readsFighter 32 = .ok (.return_, 1) := by decide +kernel
theorem dX13_readsFighter_33 : decode cX13_readsFighter 33 = .ok (.aload_n 0, 1) := by decide +kernel
theorem dX13_readsFighter_34 : decode cX13_readsFighter 34 = .ok (.invokevirtual 204, 3) := by decide +kernel
theorem dX13_readsFighter_37 : decode cX13_readsFighter 37 = .ok (.aload_n 0, 1) := by decide +kernel
theorem dX13_readsFighter_38 : decode cX13_readsFighter 38 = .ok (.iconst 0, 1) := by decide +kernel
theorem dX13_readsFighter_39 : decode cX13_readsFighter 39 = .ok (.bipush 20, 2) := by decide +kernel
theorem dX13_readsFighter_41 : decode cX13_readsFighter 41 = .ok (.invokevirtual 213, 3) := by decide +kernel
theorem dX13_readsFighter_44 : decode cX13_readsFighter 44 = .ok (.istore_n 2, 1) := by decide +kernel
theorem dX13_readsFighter_45 : decode cX13_readsFighter 45 = .ok (.aload_n 0, 1) := by decide +kernel
theorem dX13_readsFighter_46 : decode cX13_readsFighter 46 = .ok (.iconst 0, 1) := by decide +kernel
theorem dX13_readsFighter_47 : decode cX13_readsFighter 47 = .ok (.iconst 3, 1) := by decide +kernel
theorem dX13_readsFighter_48 : decode cX13_readsFighter 48 = .ok (.invokevirtual 213, 3) := by decide +kernel
theorem dX13_readsFighter_51 : decode cX13_readsFighter 51 = .ok (.istore_n 3, 1) := by decide +kernel
theorem dX13_readsFighter_52 : decode cX13_readsFighter 52 = .ok (.aload_n 0, 1) := by decide +kernel
theorem dX13_readsFighter_53 : decode cX13_readsFighter 53 = .ok (.invokevirtual 200, 3) := by decide +kernel
theorem dX13_readsFighter_56 : decode cX13_readsFighter 56 = .ok (.ifCond .ne 4, 3) := by decide +kernel
theorem dX13_readsFighter_59 : decode cX13_readsFighter 59 = .ok (.return_, 1) := by decide +kernel
theorem dX13_readsFighter_60 : decode cX13_readsFighter 60 = .ok (.iload_n 1, 1) := by decide +kernel
theorem dX13_readsFighter_61 : decode cX13_readsFighter 61 = .ok (.ifCond .eq 36, 3) := by decide +kernel
theorem dX13_readsFighter_64 : decode cX13_readsFighter 64 = .ok (.aload_n 0, 1) := by decide +kernel
theorem dX13_readsFighter_65 : decode cX13_readsFighter 65 = .ok (.getfield 89, 3) := by decide +kernel
theorem dX13_readsFighter_68 : decode cX13_readsFighter 68 = .ok (.aload_n 0, 1) := by decide +kernel
theorem dX13_readsFighter_69 : decode cX13_readsFighter 69 = .ok (.getfield 286, 3) := by decide +kernel
theorem dX13_readsFighter_72 : decode cX13_readsFighter 72 = .ok (.iload_n 2, 1) := by decide +kernel
theorem dX13_readsFighter_73 : decode cX13_readsFighter 73 = .ok (.iastore, 1) := by decide +kernel
theorem dX13_readsFighter_74 : decode cX13_readsFighter 74 = .ok (.aload_n 0, 1) := by decide +kernel
theorem dX13_readsFighter_75 : decode cX13_readsFighter 75 = .ok (.getfield 92, 3) := by decide +kernel
theorem dX13_readsFighter_78 : decode cX13_readsFighter 78 = .ok (.aload_n 0, 1) := by decide +kernel
theorem dX13_readsFighter_79 : decode cX13_readsFighter 79 = .ok (.getfield 286, 3) := by decide +kernel
theorem dX13_readsFighter_82 : decode cX13_readsFighter 82 = .ok (.iload_n 3, 1) := by decide +kernel
theorem dX13_readsFighter_83 : decode cX13_readsFighter 83 = .ok (.iastore, 1) := by decide +kernel
theorem dX13_readsFighter_84 : decode cX13_readsFighter 84 = .ok (.aload_n 0, 1) := by decide +kernel
theorem dX13_readsFighter_85 : decode cX13_readsFighter 85 = .ok (.dup, 1) := by decide +kernel
theorem dX13_readsFighter_86 : decode cX13_readsFighter 86 = .ok (.getfield 286, 3) := by decide +kernel
theorem dX13_readsFighter_89 : decode cX13_readsFighter 89 = .ok (.iconst 1, 1) := by decide +kernel
theorem dX13_readsFighter_90 : decode cX13_readsFighter 90 = .ok (.iadd, 1) := by decide +kernel
theorem dX13_readsFighter_91 : decode cX13_readsFighter 91 = .ok (.putfield 286, 3) := by decide +kernel
theorem dX13_readsFighter_94 : decode cX13_readsFighter 94 = .ok (.goto 33, 3) := by decide +kernel
theorem dX13_readsFighter_97 : decode cX13_readsFighter 97 = .ok (.aload_n 0, 1) := by decide +kernel
theorem dX13_readsFighter_98 : decode cX13_readsFighter 98 = .ok (.getfield 83, 3) := by decide +kernel
theorem dX13_readsFighter_101 : decode cX13_readsFighter 101 = .ok (.aload_n 0, 1) := by decide +kernel
theorem dX13_readsFighter_102 : decode cX13_readsFighter 102 = .ok (.getfield 289, 3) := by decide +kernel
theorem dX13_readsFighter_105 : decode cX13_readsFighter 105 = .ok (.iload_n 2, 1) := by decide +kernel
theorem dX13_readsFighter_106 : decode cX13_readsFighter 106 = .ok (.iastore, 1) := by decide +kernel
theorem dX13_readsFighter_107 : decode cX13_readsFighter 107 = .ok (.aload_n 0, 1) := by decide +kernel
theorem dX13_readsFighter_108 : decode cX13_readsFighter 108 = .ok (.getfield 86, 3) := by decide +kernel
theorem dX13_readsFighter_111 : decode cX13_readsFighter 111 = .ok (.aload_n 0, 1) := by decide +kernel
theorem dX13_readsFighter_112 : decode cX13_readsFighter 112 = .ok (.getfield 289, 3) := by decide +kernel
theorem dX13_readsFighter_115 : decode cX13_readsFighter 115 = .ok (.iload_n 3, 1) := by decide +kernel
theorem dX13_readsFighter_116 : decode cX13_readsFighter 116 = .ok (.iastore, 1) := by decide +kernel
theorem dX13_readsFighter_117 : decode cX13_readsFighter 117 = .ok (.aload_n 0, 1) := by decide +kernel
theorem dX13_readsFighter_118 : decode cX13_readsFighter 118 = .ok (.dup, 1) := by decide +kernel
theorem dX13_readsFighter_119 : decode cX13_readsFighter 119 = .ok (.getfield 289, 3) := by decide +kernel
theorem dX13_readsFighter_122 : decode cX13_readsFighter 122 = .ok (.iconst 1, 1) := by decide +kernel
theorem dX13_readsFighter_123 : decode cX13_readsFighter 123 = .ok (.iadd, 1) := by decide +kernel
theorem dX13_readsFighter_124 : decode cX13_readsFighter 124 = .ok (.putfield 289, 3) := by decide +kernel
theorem dX13_readsFighter_127 : decode cX13_readsFighter 127 = .ok (.return_, 1) := by decide +kernel
theorem dX13_line_0 : decode cX13_line 0 = .ok (.aload_n 0, 1) := by decide +kernel
theorem dX13_line_1 : decode cX13_line 1 = .ok (.invokevirtual 232, 3) := by decide +kernel
theorem dX13_line_4 : decode cX13_line 4 = .ok (.istore_n 1, 1) := by decide +kernel
theorem dX13_line_5 : decode cX13_line 5 = .ok (.iload_n 1, 1) := by decide +kernel
theorem dX13_line_6 : decode cX13_line 6 = .ok (.bipush 8, 2) := by decide +kernel
theorem dX13_line_8 : decode cX13_line 8 = .ok (.if_icmp .ne 10, 3) := by decide +kernel
theorem dX13_line_11 : decode cX13_line 11 = .ok (.aload_n 0, 1) := by decide +kernel
theorem dX13_line_12 : decode cX13_line 12 = .ok (.invokevirtual 292, 3) := by decide +kernel
theorem dX13_line_15 : decode cX13_line 15 = .ok (.goto 248, 3) := by decide +kernel
theorem dX13_line_18 : decode cX13_line 18 = .ok (.iload_n 1, 1) := by decide +kernel
theorem dX13_line_19 : decode cX13_line 19 = .ok (.bipush 9, 2) := by decide +kernel
theorem dX13_line_21 : decode cX13_line 21 = .ok (.if_icmp .ne 10, 3) := by decide +kernel
theorem dX13_line_24 : decode cX13_line 24 = .ok (.aload_n 0, 1) := by decide +kernel
theorem dX13_line_25 : decode cX13_line 25 = .ok (.invokevirtual 295, 3) := by decide +kernel
theorem dX13_line_28 : decode cX13_line 28 = .ok (.goto 235, 3) := by decide +kernel
theorem dX13_line_31 : decode cX13_line 31 = .ok (.iload_n 1, 1) := by decide +kernel
theorem dX13_line_32 : decode cX13_line 32 = .ok (.bipush 10, 2) := by decide +kernel
theorem dX13_line_34 : decode cX13_line 34 = .ok (.if_icmp .eq 9, 3) := by decide +kernel
theorem dX13_line_37 : decode cX13_line 37 = .ok (.iload_n 1, 1) := by decide +kernel
theorem dX13_line_38 : decode cX13_line 38 = .ok (.bipush 11, 2) := by decide +kernel
theorem dX13_line_40 : decode cX13_line 40 = .ok (.if_icmp .ne 14, 3) := by decide +kernel
theorem dX13_line_43 : decode cX13_line 43 = .ok (.aload_n 0, 1) := by decide +kernel
theorem dX13_line_44 : decode cX13_line 44 = .ok (.iload_n 1, 1) := by decide +kernel
theorem dX13_line_45 : decode cX13_line 45 = .ok (.bipush 10, 2) := by decide +kernel
theorem dX13_line_47 : decode cX13_line 47 = .ok (.isub, 1) := by decide +kernel
theorem dX13_line_48 : decode cX13_line 48 = .ok (.invokevirtual 298, 3) := by decide +kernel
theorem dX13_line_51 : decode cX13_line 51 = .ok (.goto 212, 3) := by decide +kernel
theorem dX13_line_54 : decode cX13_line 54 = .ok (.iload_n 1, 1) := by decide +kernel
theorem dX13_line_55 : decode cX13_line 55 = .ok (.bipush 12, 2) := by decide +kernel
theorem dX13_line_57 : decode cX13_line 57 = .ok (.if_icmp .ne 10, 3) := by decide +kernel
theorem dX13_line_60 : decode cX13_line 60 = .ok (.aload_n 0, 1) := by decide +kernel
theorem dX13_line_61 : decode cX13_line 61 = .ok (.invokevirtual 301, 3) := by decide +kernel
theorem dX13_line_64 : decode cX13_line 64 = .ok (.goto 199, 3) := by decide +kernel
theorem dX13_line_67 : decode cX13_line 67 = .ok (.iload_n 1, 1) := by decide +kernel
theorem dX13_line_68 : decode cX13_line 68 = .ok (.bipush 13, 2) := by decide +kernel
theorem dX13_line_70 : decode cX13_line 70 = .ok (.if_icmp .ne 48, 3) := by decide +kernel
theorem dX13_line_73 : decode cX13_line 73 = .ok (.aload_n 0, 1) := by decide +kernel
theorem dX13_line_74 : decode cX13_line 74 = .ok (.getfield 304, 3) := by decide +kernel
theorem dX13_line_77 : decode cX13_line 77 = .ok (.ifCond .eq 8, 3) := by decide +kernel
theorem dX13_line_80 : decode cX13_line 80 = .ok (.aload_n 0, 1) := by decide +kernel
theorem dX13_line_81 : decode cX13_line 81 = .ok (.iconst 5, 1) := by decide +kernel
theorem dX13_line_82 : decode cX13_line 82 = .ok (.invokevirtual 207, 3) := by decide +kernel
theorem dX13_line_85 : decode cX13_line 85 = .ok (.aload_n 0, 1) := by decide +kernel
theorem dX13_line_86 : decode cX13_line 86 = .ok (.invokevirtual 200, 3) := by decide +kernel
theorem dX13_line_89 : decode cX13_line 89 = .ok (.ifCond .ne 4, 3) := by decide +kernel
theorem dX13_line_92 : decode cX13_line 92 = .ok (.return_, 1) := by decide +kernel
theorem dX13_line_93 : decode cX13_line 93 = .ok (.aload_n 0, 1) := by decide +kernel
theorem dX13_line_94 : decode cX13_line 94 = .ok (.iconst 1, 1) := by decide +kernel
theorem dX13_line_95 : decode cX13_line 95 = .ok (.putfield 304, 3) := by decide +kernel
theorem dX13_line_98 : decode cX13_line 98 = .ok (.aload_n 0, 1) := by decide +kernel
theorem dX13_line_99 : decode cX13_line 99 = .ok (.invokevirtual 204, 3) := by decide +kernel
theorem dX13_line_102 : decode cX13_line 102 = .ok (.aload_n 0, 1) := by decide +kernel
theorem dX13_line_103 : decode cX13_line 103 = .ok (.getfield 95, 3) := by decide +kernel
theorem dX13_line_106 : decode cX13_line 106 = .ok (.bipush 12, 2) := by decide +kernel
theorem dX13_line_108 : decode cX13_line 108 = .ok (.aload_n 0, 1) := by decide +kernel
theorem dX13_line_109 : decode cX13_line 109 = .ok (.iconst 1, 1) := by decide +kernel
theorem dX13_line_110 : decode cX13_line 110 = .ok (.iconst 5, 1) := by decide +kernel
theorem dX13_line_111 : decode cX13_line 111 = .ok (.invokevirtual 213, 3) := by decide +kernel
theorem dX13_line_114 : decode cX13_line 114 = .ok (.iastore, 1) := by decide +kernel
theorem dX13_line_115 : decode cX13_line 115 = .ok (.goto 148, 3) := by decide +kernel
theorem dX13_line_118 : decode cX13_line 118 = .ok (.iload_n 1, 1) := by decide +kernel
theorem dX13_line_119 : decode cX13_line 119 = .ok (.bipush 14, 2) := by decide +kernel
theorem dX13_line_121 : decode cX13_line 121 = .ok (.if_icmp .ne 10, 3) := by decide +kernel
theorem dX13_line_124 : decode cX13_line 124 = .ok (.aload_n 0, 1) := by decide +kernel
theorem dX13_line_125 : decode cX13_line 125 = .ok (.invokevirtual 307, 3) := by decide +kernel
theorem dX13_line_128 : decode cX13_line 128 = .ok (.goto 135, 3) := by decide +kernel
theorem dX13_line_131 : decode cX13_line 131 = .ok (.iload_n 1, 1) := by decide +kernel
theorem dX13_line_132 : decode cX13_line 132 = .ok (.bipush 15, 2) := by decide +kernel
theorem dX13_line_134 : decode cX13_line 134 = .ok (.if_icmp .eq 9, 3) := by decide +kernel
theorem dX13_line_137 : decode cX13_line 137 = .ok (.iload_n 1, 1) := by decide +kernel
theorem dX13_line_138 : decode cX13_line 138 = .ok (.bipush 16, 2) := by decide +kernel
theorem dX13_line_140 : decode cX13_line 140 = .ok (.if_icmp .ne 21, 3) := by decide +kernel
theorem dX13_line_143 : decode cX13_line 143 = .ok (.aload_n 0, 1) := by decide +kernel
theorem dX13_line_144 : decode cX13_line 144 = .ok (.iload_n 1, 1) := by decide +kernel
theorem dX13_line_145 : decode cX13_line 145 = .ok (.bipush 16, 2) := by decide +kernel
theorem dX13_line_147 : decode cX13_line 147 = .ok (.if_icmp .ne 7, 3) := by decide +kernel
theorem dX13_line_150 : decode cX13_line 150 = .ok (.iconst 1, 1) := by decide +kernel
theorem dX13_line_151 : decode cX13_line 151 = .ok (.goto 4, 3) := by decide +kernel
theorem dX13_line_154 : decode cX13_line 154 = .ok (.iconst 0, 1) := by decide +kernel
theorem dX13_line_155 : decode cX13_line 155 = .ok (.invokevirtual 310, 3) := by decide +kernel
theorem dX13_line_158 : decode cX13_line 158 = .ok (.goto 105, 3) := by decide +kernel
theorem dX13_line_161 : decode cX13_line 161 = .ok (.iload_n 1, 1) := by decide +kernel
theorem dX13_line_162 : decode cX13_line 162 = .ok (.bipush 17, 2) := by decide +kernel
theorem dX13_line_164 : decode cX13_line 164 = .ok (.if_icmp .ne 45, 3) := by decide +kernel
theorem dX13_line_167 : decode cX13_line 167 = .ok (.aload_n 0, 1) := by decide +kernel
theorem dX13_line_168 : decode cX13_line 168 = .ok (.getfield 313, 3) := by decide +kernel
theorem dX13_line_171 : decode cX13_line 171 = .ok (.iconst (-1), 1) := by decide +kernel
theorem dX13_line_172 : decode cX13_line 172 = .ok (.if_icmp .eq 8, 3) := by decide +kernel
theorem dX13_line_175 : decode cX13_line 175 = .ok (.aload_n 0, 1) := by decide +kernel
theorem dX13_line_176 : decode cX13_line 176 = .ok (.iconst 5, 1) := by decide +kernel
theorem dX13_line_177 : decode cX13_line 177 = .ok (.invokevirtual 207, 3) := by decide +kernel
theorem dX13_line_180 : decode cX13_line 180 = .ok (.aload_n 0, 1) := by decide +kernel
theorem dX13_line_181 : decode cX13_line 181 = .ok (.invokevirtual 200, 3) := by decide +kernel
theorem dX13_line_184 : decode cX13_line 184 = .ok (.ifCond .ne 4, 3) := by decide +kernel
theorem dX13_line_187 : decode cX13_line 187 = .ok (.return_, 1) := by decide +kernel
theorem dX13_line_188 : decode cX13_line 188 = .ok (.aload_n 0, 1) := by decide +kernel
theorem dX13_line_189 : decode cX13_line 189 = .ok (.invokevirtual 204, 3) := by decide +kernel
theorem dX13_line_192 : decode cX13_line 192 = .ok (.aload_n 0, 1) := by decide +kernel
theorem dX13_line_193 : decode cX13_line 193 = .ok (.aload_n 0, 1) := by decide +kernel
theorem dX13_line_194 : decode cX13_line 194 = .ok (.getfield 217, 3) := by decide +kernel
theorem dX13_line_197 : decode cX13_line 197 = .ok (.putfield 313, 3) := by decide +kernel
theorem dX13_line_200 : decode cX13_line 200 = .ok (.aload_n 0, 1) := by decide +kernel
theorem dX13_line_201 : decode cX13_line 201 = .ok (.iconst 0, 1) := by decide +kernel
theorem dX13_line_202 : decode cX13_line 202 = .ok (.iconst 5, 1) := by decide +kernel
theorem dX13_line_203 : decode cX13_line 203 = .ok (.invokevirtual 316, 3) := by decide +kernel
theorem dX13_line_206 : decode cX13_line 206 = .ok (.goto 57, 3) := by decide +kernel
theorem dX13_line_209 : decode cX13_line 209 = .ok (.iload_n 1, 1) := by decide +kernel
theorem dX13_line_210 : decode cX13_line 210 = .ok (.bipush 18, 2) := by decide +kernel
theorem dX13_line_212 : decode cX13_line 212 = .ok (.if_icmp .ne 46, 3) := by decide +kernel
theorem dX13_line_215 : decode cX13_line 215 = .ok (.aload_n 0, 1) := by decide +kernel
theorem dX13_line_216 : decode cX13_line 216 = .ok (.getfield 320, 3) := by decide +kernel
theorem dX13_line_219 : decode cX13_line 219 = .ok (.iconst (-1), 1) := by decide +kernel
theorem dX13_line_220 : decode cX13_line 220 = .ok (.if_icmp .eq 8, 3) := by decide +kernel
theorem dX13_line_223 : decode cX13_line 223 = .ok (.aload_n 0, 1) := by decide +kernel
theorem dX13_line_224 : decode cX13_line 224 = .ok (.iconst 5, 1) := by decide +kernel
theorem dX13_line_225 : decode cX13_line 225 = .ok (.invokevirtual 207, 3) := by decide +kernel
theorem dX13_line_228 : decode cX13_line 228 = .ok (.aload_n 0, 1) := by decide +kernel
theorem dX13_line_229 : decode cX13_line 229 = .ok (.invokevirtual 200, 3) := by decide +kernel
theorem dX13_line_232 : decode cX13_line 232 = .ok (.ifCond .ne 4, 3) := by decide +kernel
theorem dX13_line_235 : decode cX13_line 235 = .ok (.return_, 1) := by decide +kernel
theorem dX13_line_236 : decode cX13_line 236 = .ok (.aload_n 0, 1) := by decide +kernel
theorem dX13_line_237 : decode cX13_line 237 = .ok (.invokevirtual 204, 3) := by decide +kernel
theorem dX13_line_240 : decode cX13_line 240 = .ok (.aload_n 0, 1) := by decide +kernel
theorem dX13_line_241 : decode cX13_line 241 = .ok (.aload_n 0, 1) := by decide +kernel
theorem dX13_line_242 : decode cX13_line 242 = .ok (.getfield 217, 3) := by decide +kernel
theorem dX13_line_245 : decode cX13_line 245 = .ok (.putfield 320, 3) := by decide +kernel
theorem dX13_line_248 : decode cX13_line 248 = .ok (.aload_n 0, 1) := by decide +kernel
theorem dX13_line_249 : decode cX13_line 249 = .ok (.iconst 3, 1) := by decide +kernel
theorem dX13_line_250 : decode cX13_line 250 = .ok (.bipush 7, 2) := by decide +kernel
theorem dX13_line_252 : decode cX13_line 252 = .ok (.invokevirtual 316, 3) := by decide +kernel
theorem dX13_line_255 : decode cX13_line 255 = .ok (.goto 8, 3) := by decide +kernel
theorem dX13_line_258 : decode cX13_line 258 = .ok (.aload_n 0, 1) := by decide +kernel
theorem dX13_line_259 : decode cX13_line 259 = .ok (.iconst 1, 1) := by decide +kernel
theorem dX13_line_260 : decode cX13_line 260 = .ok (.invokevirtual 207, 3) := by decide +kernel
theorem dX13_line_263 : decode cX13_line 263 = .ok (.aload_n 0, 1) := by decide +kernel
theorem dX13_line_264 : decode cX13_line 264 = .ok (.aload_n 0, 1) := by decide +kernel
theorem dX13_line_265 : decode cX13_line 265 = .ok (.bipush 59, 2) := by decide +kernel
theorem dX13_line_267 : decode cX13_line 267 = .ok (.invokevirtual 210, 3) := by decide +kernel
theorem dX13_line_270 : decode cX13_line 270 = .ok (.invokevirtual 323, 3) := by decide +kernel
theorem dX13_line_273 : decode cX13_line 273 = .ok (.return_, 1) := by decide +kernel
theorem dX13_land_0 : decode cX13_land 0 = .ok (.aload_n 0, 1) := by decide +kernel
theorem dX13_land_1 : decode cX13_land 1 = .ok (.iconst 0, 1) := by decide +kernel
theorem dX13_land_2 : decode cX13_land 2 = .ok (.putfield 141, 3) := by decide +kernel
theorem dX13_land_5 : decode cX13_land 5 = .ok (.aload_n 0, 1) := by decide +kernel
theorem dX13_land_6 : decode cX13_land 6 = .ok (.iload_n 1, 1) := by decide +kernel
theorem dX13_land_7 : decode cX13_land 7 = .ok (.ifCond .lt 15, 3) := by decide +kernel
theorem dX13_land_10 : decode cX13_land 10 = .ok (.iload_n 1, 1) := by decide +kernel
theorem dX13_land_11 : decode cX13_land 11 = .ok (.aload_n 0, 1) := by decide +kernel
theorem dX13_land_12 : decode cX13_land 12 = .ok (.getfield 144, 3) := by decide +kernel
theorem dX13_land_15 : decode cX13_land 15 = .ok (.if_icmp .gt 7, 3) := by decide +kernel
theorem dX13_land_18 : decode cX13_land 18 = .ok (.iconst 1, 1) := by decide +kernel
theorem dX13_land_19 : decode cX13_land 19 = .ok (.goto 4, 3) := by decide +kernel
theorem dX13_land_22 : decode cX13_land 22 = .ok (.iconst 0, 1) := by decide +kernel
theorem dX13_land_23 : decode cX13_land 23 = .ok (.iconst 1, 1) := by decide +kernel
theorem dX13_land_24 : decode cX13_land 24 = .ok (.invokevirtual 326, 3) := by decide +kernel
theorem dX13_land_27 : decode cX13_land 27 = .ok (.ifCond .ne 5, 3) := by decide +kernel
theorem dX13_land_30 : decode cX13_land 30 = .ok (.iconst 0, 1) := by decide +kernel
theorem dX13_land_31 : decode cX13_land 31 = .ok (.ireturn, 1) := by decide +kernel
theorem dX13_land_32 : decode cX13_land 32 = .ok (.aload_n 0, 1) := by decide +kernel
theorem dX13_land_33 : decode cX13_land 33 = .ok (.iconst 0, 1) := by decide +kernel
theorem dX13_land_34 : decode cX13_land 34 = .ok (.putfield 144, 3) := by decide +kernel
theorem dX13_land_37 : decode cX13_land 37 = .ok (.aload_n 0, 1) := by decide +kernel
theorem dX13_land_38 : decode cX13_land 38 = .ok (.iconst (-1), 1) := by decide +kernel
theorem dX13_land_39 : decode cX13_land 39 = .ok (.putfield 56, 3) := by decide +kernel
theorem dX13_land_42 : decode cX13_land 42 = .ok (.aload_n 0, 1) := by decide +kernel
theorem dX13_land_43 : decode cX13_land 43 = .ok (.iconst 0, 1) := by decide +kernel
theorem dX13_land_44 : decode cX13_land 44 = .ok (.putfield 197, 3) := by decide +kernel
theorem dX13_land_47 : decode cX13_land 47 = .ok (.aload_n 0, 1) := by decide +kernel
theorem dX13_land_48 : decode cX13_land 48 = .ok (.iload_n 1, 1) := by decide +kernel
theorem dX13_land_49 : decode cX13_land 49 = .ok (.putfield 151, 3) := by decide +kernel
theorem dX13_land_52 : decode cX13_land 52 = .ok (.aload_n 0, 1) := by decide +kernel
theorem dX13_land_53 : decode cX13_land 53 = .ok (.iconst 0, 1) := by decide +kernel
theorem dX13_land_54 : decode cX13_land 54 = .ok (.putfield 154, 3) := by decide +kernel
theorem dX13_land_57 : decode cX13_land 57 = .ok (.aload_n 0, 1) := by decide +kernel
theorem dX13_land_58 : decode cX13_land 58 = .ok (.iconst 0, 1) := by decide +kernel
theorem dX13_land_59 : decode cX13_land 59 = .ok (.putfield 271, 3) := by decide +kernel
theorem dX13_land_62 : decode cX13_land 62 = .ok (.aload_n 0, 1) := by decide +kernel
theorem dX13_land_63 : decode cX13_land 63 = .ok (.iconst 0, 1) := by decide +kernel
theorem dX13_land_64 : decode cX13_land 64 = .ok (.putfield 280, 3) := by decide +kernel
theorem dX13_land_67 : decode cX13_land 67 = .ok (.aload_n 0, 1) := by decide +kernel
theorem dX13_land_68 : decode cX13_land 68 = .ok (.iconst 0, 1) := by decide +kernel
theorem dX13_land_69 : decode cX13_land 69 = .ok (.putfield 283, 3) := by decide +kernel
theorem dX13_land_72 : decode cX13_land 72 = .ok (.aload_n 0, 1) := by decide +kernel
theorem dX13_land_73 : decode cX13_land 73 = .ok (.iconst 0, 1) := by decide +kernel
theorem dX13_land_74 : decode cX13_land 74 = .ok (.putfield 289, 3) := by decide +kernel
theorem dX13_land_77 : decode cX13_land 77 = .ok (.aload_n 0, 1) := by decide +kernel
theorem dX13_land_78 : decode cX13_land 78 = .ok (.iconst 0, 1) := by decide +kernel
theorem dX13_land_79 : decode cX13_land 79 = .ok (.putfield 286, 3) := by decide +kernel
theorem dX13_land_82 : decode cX13_land 82 = .ok (.aload_n 0, 1) := by decide +kernel
theorem dX13_land_83 : decode cX13_land 83 = .ok (.iconst (-1), 1) := by decide +kernel
theorem dX13_land_84 : decode cX13_land 84 = .ok (.putfield 313, 3) := by decide +kernel
theorem dX13_land_87 : decode cX13_land 87 = .ok (.aload_n 0, 1) := by decide +kernel
theorem dX13_land_88 : decode cX13_land 88 = .ok (.iconst (-1), 1) := by decide +kernel
theorem dX13_land_89 : decode cX13_land 89 = .ok (.putfield 320, 3) := by decide +kernel
theorem dX13_land_92 : decode cX13_land 92 = .ok (.aload_n 0, 1) := by decide +kernel
theorem dX13_land_93 : decode cX13_land 93 = .ok (.getfield 74, 3) := by decide +kernel
theorem dX13_land_96 : decode cX13_land 96 = .ok (.iconst 0, 1) := by decide +kernel
theorem dX13_land_97 : decode cX13_land 97 = .ok (.iconst 0, 1) := by decide +kernel
theorem dX13_land_98 : decode cX13_land 98 = .ok (.iastore, 1) := by decide +kernel
theorem dX13_land_99 : decode cX13_land 99 = .ok (.aload_n 0, 1) := by decide +kernel
theorem dX13_land_100 : decode cX13_land 100 = .ok (.getfield 74, 3) := by decide +kernel
theorem dX13_land_103 : decode cX13_land 103 = .ok (.iconst 1, 1) := by decide +kernel
theorem dX13_land_104 : decode cX13_land 104 = .ok (.iconst 0, 1) := by decide +kernel
theorem dX13_land_105 : decode cX13_land 105 = .ok (.iastore, 1) := by decide +kernel
theorem dX13_land_106 : decode cX13_land 106 = .ok (.aload_n 0, 1) := by decide +kernel
theorem dX13_land_107 : decode cX13_land 107 = .ok (.iconst 0, 1) := by decide +kernel
theorem dX13_land_108 : decode cX13_land 108 = .ok (.putfield 267, 3) := by decide +kernel
theorem dX13_land_111 : decode cX13_land 111 = .ok (.aload_n 0, 1) := by decide +kernel
theorem dX13_land_112 : decode cX13_land 112 = .ok (.iconst 0, 1) := by decide +kernel
theorem dX13_land_113 : decode cX13_land 113 = .ok (.putfield 304, 3) := by decide +kernel
theorem dX13_land_116 : decode cX13_land 116 = .ok (.iconst 0, 1) := by decide +kernel
theorem dX13_land_117 : decode cX13_land 117 = .ok (.istore_n 2, 1) := by decide +kernel
theorem dX13_land_118 : decode cX13_land 118 = .ok (.iload_n 2, 1) := by decide +kernel
theorem dX13_land_119 : decode cX13_land 119 = .ok (.bipush 31, 2) := by decide +kernel
theorem dX13_land_121 : decode cX13_land 121 = .ok (.if_icmp .ge 16, 3) := by decide +kernel
theorem dX13_land_124 : decode cX13_land 124 = .ok (.aload_n 0, 1) := by decide +kernel
theorem dX13_land_125 : decode cX13_land 125 = .ok (.getfield 95, 3) := by decide +kernel
theorem dX13_land_128 : decode cX13_land 128 = .ok (.iload_n 2, 1) := by decide +kernel
theorem dX13_land_129 : decode cX13_land 129 = .ok (.iconst 0, 1) := by decide +kernel
theorem dX13_land_130 : decode cX13_land 130 = .ok (.iastore, 1) := by decide +kernel
theorem dX13_land_131 : decode cX13_land 131 = .ok (.iinc 2 1, 3) := by decide +kernel
theorem dX13_land_134 : decode cX13_land 134 = .ok (.goto (-16), 3) := by decide +kernel
theorem dX13_land_137 : decode cX13_land 137 = .ok (.aload_n 0, 1) := by decide +kernel
theorem dX13_land_138 : decode cX13_land 138 = .ok (.getfield 95, 3) := by decide +kernel
theorem dX13_land_141 : decode cX13_land 141 = .ok (.iconst 0, 1) := by decide +kernel
theorem dX13_land_142 : decode cX13_land 142 = .ok (.bipush 50, 2) := by decide +kernel
theorem dX13_land_144 : decode cX13_land 144 = .ok (.iastore, 1) := by decide +kernel
theorem dX13_land_145 : decode cX13_land 145 = .ok (.aload_n 0, 1) := by decide +kernel
theorem dX13_land_146 : decode cX13_land 146 = .ok (.getfield 95, 3) := by decide +kernel
theorem dX13_land_149 : decode cX13_land 149 = .ok (.iconst 1, 1) := by decide +kernel
theorem dX13_land_150 : decode cX13_land 150 = .ok (.bipush 20, 2) := by decide +kernel
theorem dX13_land_152 : decode cX13_land 152 = .ok (.iastore, 1) := by decide +kernel
theorem dX13_land_153 : decode cX13_land 153 = .ok (.aload_n 0, 1) := by decide +kernel
theorem dX13_land_154 : decode cX13_land 154 = .ok (.getfield 95, 3) := by decide +kernel
theorem dX13_land_157 : decode cX13_land 157 = .ok (.bipush 12, 2) := by decide +kernel
theorem dX13_land_159 : decode cX13_land 159 = .ok (.iconst 1, 1) := by decide +kernel
theorem dX13_land_160 : decode cX13_land 160 = .ok (.iastore, 1) := by decide +kernel
theorem dX13_land_161 : decode cX13_land 161 = .ok (.aload_n 0, 1) := by decide +kernel
theorem dX13_land_162 : decode cX13_land 162 = .ok (.iconst 0, 1) := by decide +kernel
theorem dX13_land_163 : decode cX13_land 163 = .ok (.putfield 217, 3) := by decide +kernel
theorem dX13_land_166 : decode cX13_land 166 = .ok (.aload_n 0, 1) := by decide +kernel
theorem dX13_land_167 : decode cX13_land 167 = .ok (.invokevirtual 204, 3) := by decide +kernel
theorem dX13_land_170 : decode cX13_land 170 = .ok (.aload_n 0, 1) := by decide +kernel
theorem dX13_land_171 : decode cX13_land 171 = .ok (.invokevirtual 200, 3) := by decide +kernel
theorem dX13_land_174 : decode cX13_land 174 = .ok (.ifCond .eq 17, 3) := by decide +kernel
theorem dX13_land_177 : decode cX13_land 177 = .ok (.aload_n 0, 1) := by decide +kernel
theorem dX13_land_178 : decode cX13_land 178 = .ok (.getfield 174, 3) := by decide +kernel
theorem dX13_land_181 : decode cX13_land 181 = .ok (.ifCond .eq 10, 3) := by decide +kernel
theorem dX13_land_184 : decode cX13_land 184 = .ok (.aload_n 0, 1) := by decide +kernel
theorem dX13_land_185 : decode cX13_land 185 = .ok (.invokevirtual 330, 3) := by decide +kernel
theorem dX13_land_188 : decode cX13_land 188 = .ok (.goto (-18), 3) := by decide +kernel
theorem dX13_land_191 : decode cX13_land 191 = .ok (.aload_n 0, 1) := by decide +kernel
theorem dX13_land_192 : decode cX13_land 192 = .ok (.invokevirtual 200, 3) := by decide +kernel
theorem dX13_land_195 : decode cX13_land 195 = .ok (.ifCond .ne 18, 3) := by decide +kernel
theorem dX13_land_198 : decode cX13_land 198 = .ok (.aload_n 0, 1) := by decide +kernel
theorem dX13_land_199 : decode cX13_land 199 = .ok (.getfield 59, 3) := by decide +kernel
theorem dX13_land_202 : decode cX13_land 202 = .ok (.iconst 0, 1) := by decide +kernel
theorem dX13_land_203 : decode cX13_land 203 = .ok (.dup2, 1) := by decide +kernel
theorem dX13_land_204 : decode cX13_land 204 = .ok (.iaload, 1) := by decide +kernel
theorem dX13_land_205 : decode cX13_land 205 = .ok (.iconst 1, 1) := by decide +kernel
theorem dX13_land_206 : decode cX13_land 206 = .ok (.iadd, 1) := by decide +kernel
theorem dX13_land_207 : decode cX13_land 207 = .ok (.iastore, 1) := by decide +kernel
theorem dX13_land_208 : decode cX13_land 208 = .ok (.aload_n 0, 1) := by decide +kernel
theorem dX13_land_209 : decode cX13_land 209 = .ok (.getfield 197, 3) := by decide +kernel
theorem dX13_land_212 : decode cX13_land 212 = .ok (.ireturn, 1) := by decide +kernel
theorem dX13_land_213 : decode cX13_land 213 = .ok (.aload_n 0, 1) := by decide +kernel
theorem dX13_land_214 : decode cX13_land 214 = .ok (.aload_n 0, 1) := by decide +kernel
theorem dX13_land_215 : decode cX13_land 215 = .ok (.getfield 271, 3) := by decide +kernel
theorem dX13_land_218 : decode cX13_land 218 = .ok (.putfield 333, 3) := by decide +kernel
theorem dX13_land_221 : decode cX13_land 221 = .ok (.aload_n 0, 1) := by decide +kernel
theorem dX13_land_222 : decode cX13_land 222 = .ok (.aload_n 0, 1) := by decide +kernel
theorem dX13_land_223 : decode cX13_land 223 = .ok (.getfield 280, 3) := by decide +kernel
theorem dX13_land_226 : decode cX13_land 226 = .ok (.putfield 336, 3) := by decide +kernel
theorem dX13_land_229 : decode cX13_land 229 = .ok (.aload_n 0, 1) := by decide +kernel
theorem dX13_land_230 : decode cX13_land 230 = .ok (.aload_n 0, 1) := by decide +kernel
theorem dX13_land_231 : decode cX13_land 231 = .ok (.getfield 283, 3) := by decide +kernel
theorem dX13_land_234 : decode cX13_land 234 = .ok (.putfield 339, 3) := by decide +kernel
theorem dX13_land_237 : decode cX13_land 237 = .ok (.aload_n 0, 1) := by decide +kernel
theorem dX13_land_238 : decode cX13_land 238 = .ok (.aload_n 0, 1) := by decide +kernel
theorem dX13_land_239 : decode cX13_land 239 = .ok (.getfield 289, 3) := by decide +kernel
theorem dX13_land_242 : decode cX13_land 242 = .ok (.putfield 342, 3) := by decide +kernel
theorem dX13_land_245 : decode cX13_land 245 = .ok (.aload_n 0, 1) := by decide +kernel
theorem dX13_land_246 : decode cX13_land 246 = .ok (.aload_n 0, 1) := by decide +kernel
theorem dX13_land_247 : decode cX13_land 247 = .ok (.getfield 286, 3) := by decide +kernel
theorem dX13_land_250 : decode cX13_land 250 = .ok (.putfield 345, 3) := by decide +kernel
theorem dX13_land_253 : decode cX13_land 253 = .ok (.aload_n 0, 1) := by decide +kernel
theorem dX13_land_254 : decode cX13_land 254 = .ok (.aload_n 0, 1) := by decide +kernel
theorem dX13_land_255 : decode cX13_land 255 = .ok (.getfield 313, 3) := by decide +kernel
theorem dX13_land_258 : decode cX13_land 258 = .ok (.putfield 9, 3) := by decide +kernel
theorem dX13_land_261 : decode cX13_land 261 = .ok (.aload_n 0, 1) := by decide +kernel
theorem dX13_land_262 : decode cX13_land 262 = .ok (.aload_n 0, 1) := by decide +kernel
theorem dX13_land_263 : decode cX13_land 263 = .ok (.getfield 320, 3) := by decide +kernel
theorem dX13_land_266 : decode cX13_land 266 = .ok (.putfield 13, 3) := by decide +kernel
theorem dX13_land_269 : decode cX13_land 269 = .ok (.aload_n 0, 1) := by decide +kernel
theorem dX13_land_270 : decode cX13_land 270 = .ok (.aload_n 0, 1) := by decide +kernel
theorem dX13_land_271 : decode cX13_land 271 = .ok (.getfield 62, 3) := by decide +kernel
theorem dX13_land_274 : decode cX13_land 274 = .ok (.aload_n 0, 1) := by decide +kernel
theorem dX13_land_275 : decode cX13_land 275 = .ok (.getfield 16, 3) := by decide +kernel
theorem dX13_land_278 : decode cX13_land 278 = .ok (.invokevirtual 348, 3) := by decide +kernel
theorem dX13_land_281 : decode cX13_land 281 = .ok (.aload_n 0, 1) := by decide +kernel
theorem dX13_land_282 : decode cX13_land 282 = .ok (.aload_n 0, 1) := by decide +kernel
theorem dX13_land_283 : decode cX13_land 283 = .ok (.getfield 65, 3) := by decide +kernel
theorem dX13_land_286 : decode cX13_land 286 = .ok (.aload_n 0, 1) := by decide +kernel
theorem dX13_land_287 : decode cX13_land 287 = .ok (.getfield 20, 3) := by decide +kernel
theorem dX13_land_290 : decode cX13_land 290 = .ok (.invokevirtual 348, 3) := by decide +kernel
theorem dX13_land_293 : decode cX13_land 293 = .ok (.aload_n 0, 1) := by decide +kernel
theorem dX13_land_294 : decode cX13_land 294 = .ok (.aload_n 0, 1) := by decide +kernel
theorem dX13_land_295 : decode cX13_land 295 = .ok (.getfield 68, 3) := by decide +kernel
theorem dX13_land_298 : decode cX13_land 298 = .ok (.aload_n 0, 1) := by decide +kernel
theorem dX13_land_299 : decode cX13_land 299 = .ok (.getfield 23, 3) := by decide +kernel
theorem dX13_land_302 : decode cX13_land 302 = .ok (.invokevirtual 348, 3) := by decide +kernel
theorem dX13_land_305 : decode cX13_land 305 = .ok (.aload_n 0, 1) := by decide +kernel
theorem dX13_land_306 : decode cX13_land 306 = .ok (.aload_n 0, 1) := by decide +kernel
theorem dX13_land_307 : decode cX13_land 307 = .ok (.getfield 71, 3) := by decide +kernel
theorem dX13_land_310 : decode cX13_land 310 = .ok (.aload_n 0, 1) := by decide +kernel
theorem dX13_land_311 : decode cX13_land 311 = .ok (.getfield 26, 3) := by decide +kernel
theorem dX13_land_314 : decode cX13_land 314 = .ok (.invokevirtual 348, 3) := by decide +kernel
theorem dX13_land_317 : decode cX13_land 317 = .ok (.aload_n 0, 1) := by decide +kernel
theorem dX13_land_318 : decode cX13_land 318 = .ok (.aload_n 0, 1) := by decide +kernel
theorem dX13_land_319 : decode cX13_land 319 = .ok (.getfield 74, 3) := by decide +kernel
theorem dX13_land_322 : decode cX13_land 322 = .ok (.aload_n 0, 1) := by decide +kernel
theorem dX13_land_323 : decode cX13_land 323 = .ok (.getfield 29, 3) := by decide +kernel
theorem dX13_land_326 : decode cX13_land 326 = .ok (.invokevirtual 348, 3) := by decide +kernel
theorem dX13_land_329 : decode cX13_land 329 = .ok (.aload_n 0, 1) := by decide +kernel
theorem dX13_land_330 : decode cX13_land 330 = .ok (.aload_n 0, 1) := by decide +kernel
theorem dX13_land_331 : decode cX13_land 331 = .ok (.getfield 77, 3) := by decide +kernel
theorem dX13_land_334 : decode cX13_land 334 = .ok (.aload_n 0, 1) := by decide +kernel
theorem dX13_land_335 : decode cX13_land 335 = .ok (.getfield 32, 3) := by decide +kernel
theorem dX13_land_338 : decode cX13_land 338 = .ok (.invokevirtual 348, 3) := by decide +kernel
theorem dX13_land_341 : decode cX13_land 341 = .ok (.aload_n 0, 1) := by decide +kernel
theorem dX13_land_342 : decode cX13_land 342 = .ok (.aload_n 0, 1) := by decide +kernel
theorem dX13_land_343 : decode cX13_land 343 = .ok (.getfield 80, 3) := by decide +kernel
theorem dX13_land_346 : decode cX13_land 346 = .ok (.aload_n 0, 1) := by decide +kernel
theorem dX13_land_347 : decode cX13_land 347 = .ok (.getfield 35, 3) := by decide +kernel
theorem dX13_land_350 : decode cX13_land 350 = .ok (.invokevirtual 348, 3) := by decide +kernel
theorem dX13_land_353 : decode cX13_land 353 = .ok (.aload_n 0, 1) := by decide +kernel
theorem dX13_land_354 : decode cX13_land 354 = .ok (.aload_n 0, 1) := by decide +kernel
theorem dX13_land_355 : decode cX13_land 355 = .ok (.getfield 83, 3) := by decide +kernel
theorem dX13_land_358 : decode cX13_land 358 = .ok (.aload_n 0, 1) := by decide +kernel
theorem dX13_land_359 : decode cX13_land 359 = .ok (.getfield 38, 3) := by decide +kernel
theorem dX13_land_362 : decode cX13_land 362 = .ok (.invokevirtual 348, 3) := by decide +kernel
theorem dX13_land_365 : decode cX13_land 365 = .ok (.aload_n 0, 1) := by decide +kernel
theorem dX13_land_366 : decode cX13_land 366 = .ok (.aload_n 0, 1) := by decide +kernel
theorem dX13_land_367 : decode cX13_land 367 = .ok (.getfield 86, 3) := by decide +kernel
theorem dX13_land_370 : decode cX13_land 370 = .ok (.aload_n 0, 1) := by decide +kernel
theorem dX13_land_371 : decode cX13_land 371 = .ok (.getfield 41, 3) := by decide +kernel
theorem dX13_land_374 : decode cX13_land 374 = .ok (.invokevirtual 348, 3) := by decide +kernel
theorem dX13_land_377 : decode cX13_land 377 = .ok (.aload_n 0, 1) := by decide +kernel
theorem dX13_land_378 : decode cX13_land 378 = .ok (.aload_n 0, 1) := by decide +kernel
theorem dX13_land_379 : decode cX13_land 379 = .ok (.getfield 89, 3) := by decide +kernel
theorem dX13_land_382 : decode cX13_land 382 = .ok (.aload_n 0, 1) := by decide +kernel
theorem dX13_land_383 : decode cX13_land 383 = .ok (.getfield 44, 3) := by decide +kernel
theorem dX13_land_386 : decode cX13_land 386 = .ok (.invokevirtual 348, 3) := by decide +kernel
theorem dX13_land_389 : decode cX13_land 389 = .ok (.aload_n 0, 1) := by decide +kernel
theorem dX13_land_390 : decode cX13_land 390 = .ok (.aload_n 0, 1) := by decide +kernel
theorem dX13_land_391 : decode cX13_land 391 = .ok (.getfield 92, 3) := by decide +kernel
theorem dX13_land_394 : decode cX13_land 394 = .ok (.aload_n 0, 1) := by decide +kernel
theorem dX13_land_395 : decode cX13_land 395 = .ok (.getfield 47, 3) := by decide +kernel
theorem dX13_land_398 : decode cX13_land 398 = .ok (.invokevirtual 348, 3) := by decide +kernel
theorem dX13_land_401 : decode cX13_land 401 = .ok (.aload_n 0, 1) := by decide +kernel
theorem dX13_land_402 : decode cX13_land 402 = .ok (.aload_n 0, 1) := by decide +kernel
theorem dX13_land_403 : decode cX13_land 403 = .ok (.getfield 98, 3) := by decide +kernel
theorem dX13_land_406 : decode cX13_land 406 = .ok (.aload_n 0, 1) := by decide +kernel
theorem dX13_land_407 : decode cX13_land 407 = .ok (.getfield 50, 3) := by decide +kernel
theorem dX13_land_410 : decode cX13_land 410 = .ok (.invokevirtual 348, 3) := by decide +kernel
theorem dX13_land_413 : decode cX13_land 413 = .ok (.iconst 0, 1) := by decide +kernel
theorem dX13_land_414 : decode cX13_land 414 = .ok (.istore_n 2, 1) := by decide +kernel
theorem dX13_land_415 : decode cX13_land 415 = .ok (.iload_n 2, 1) := by decide +kernel
theorem dX13_land_416 : decode cX13_land 416 = .ok (.bipush 31, 2) := by decide +kernel
theorem dX13_land_418 : decode cX13_land 418 = .ok (.if_icmp .ge 21, 3) := by decide +kernel
theorem dX13_land_421 : decode cX13_land 421 = .ok (.aload_n 0, 1) := by decide +kernel
theorem dX13_land_422 : decode cX13_land 422 = .ok (.getfield 108, 3) := by decide +kernel
theorem dX13_land_425 : decode cX13_land 425 = .ok (.iload_n 2, 1) := by decide +kernel
theorem dX13_land_426 : decode cX13_land 426 = .ok (.aload_n 0, 1) := by decide +kernel
theorem dX13_land_427 : decode cX13_land 427 = .ok (.getfield 95, 3) := by decide +kernel
theorem dX13_land_430 : decode cX13_land 430 = .ok (.iload_n 2, 1) := by decide +kernel
theorem dX13_land_431 : decode cX13_land 431 = .ok (.iaload, 1) := by decide +kernel
theorem dX13_land_432 : decode cX13_land 432 = .ok (.iastore, 1) := by decide +kernel
theorem dX13_land_433 : decode cX13_land 433 = .ok (.iinc 2 1, 3) := by decide +kernel
theorem dX13_land_436 : decode cX13_land 436 = .ok (.goto (-21), 3) := by decide +kernel
theorem dX13_land_439 : decode cX13_land 439 = .ok (.aload_n 0, 1) := by decide +kernel
theorem dX13_land_440 : decode cX13_land 440 = .ok (.iconst 0, 1) := by decide +kernel
theorem dX13_land_441 : decode cX13_land 441 = .ok (.putfield 352, 3) := by decide +kernel
theorem dX13_land_444 : decode cX13_land 444 = .ok (.aload_n 0, 1) := by decide +kernel
theorem dX13_land_445 : decode cX13_land 445 = .ok (.iconst 0, 1) := by decide +kernel
theorem dX13_land_446 : decode cX13_land 446 = .ok (.putfield 355, 3) := by decide +kernel
theorem dX13_land_449 : decode cX13_land 449 = .ok (.aload_n 0, 1) := by decide +kernel
theorem dX13_land_450 : decode cX13_land 450 = .ok (.iconst 0, 1) := by decide +kernel
theorem dX13_land_451 : decode cX13_land 451 = .ok (.putfield 358, 3) := by decide +kernel
theorem dX13_land_454 : decode cX13_land 454 = .ok (.iconst 0, 1) := by decide +kernel
theorem dX13_land_455 : decode cX13_land 455 = .ok (.ireturn, 1) := by decide +kernel
theorem dX13_fault_0 : decode cX13_fault 0 = .ok (.aload_n 0, 1) := by decide +kernel
theorem dX13_fault_1 : decode cX13_fault 1 = .ok (.iconst 0, 1) := by decide +kernel
theorem dX13_fault_2 : decode cX13_fault 2 = .ok (.putfield 141, 3) := by decide +kernel
theorem dX13_fault_5 : decode cX13_fault 5 = .ok (.aload_n 0, 1) := by decide +kernel
theorem dX13_fault_6 : decode cX13_fault 6 = .ok (.getfield 56, 3) := by decide +kernel
theorem dX13_fault_9 : decode cX13_fault 9 = .ok (.ireturn, 1) := by decide +kernel
theorem dX13_keeps_0 : decode cX13_keeps 0 = .ok (.aload_n 0, 1) := by decide +kernel
theorem dX13_keeps_1 : decode cX13_keeps 1 = .ok (.getfield 352, 3) := by decide +kernel
theorem dX13_keeps_4 : decode cX13_keeps 4 = .ok (.bipush 40, 2) := by decide +kernel
theorem dX13_keeps_6 : decode cX13_keeps 6 = .ok (.if_icmp .ne 44, 3) := by decide +kernel
theorem dX13_keeps_9 : decode cX13_keeps 9 = .ok (.bipush 31, 2) := by decide +kernel
theorem dX13_keeps_11 : decode cX13_keeps 11 = .ok (.istore_n 1, 1) := by decide +kernel
theorem dX13_keeps_12 : decode cX13_keeps 12 = .ok (.iload_n 1, 1) := by decide +kernel
theorem dX13_keeps_13 : decode cX13_keeps 13 = .ok (.sipush 1240, 3) := by decide +kernel
theorem dX13_keeps_16 : decode cX13_keeps 16 = .ok (.if_icmp .ge 24, 3) := by decide +kernel
theorem dX13_keeps_19 : decode cX13_keeps 19 = .ok (.aload_n 0, 1) := by decide +kernel
theorem dX13_keeps_20 : decode cX13_keeps 20 = .ok (.getfield 111, 3) := by decide +kernel
theorem dX13_keeps_23 : decode cX13_keeps 23 = .ok (.iload_n 1, 1) := by decide +kernel
theorem dX13_keeps_24 : decode cX13_keeps 24 = .ok (.bipush 31, 2) := by decide +kernel
theorem dX13_keeps_26 : decode cX13_keeps 26 = .ok (.isub, 1) := by decide +kernel
theorem dX13_keeps_27 : decode cX13_keeps 27 = .ok (.aload_n 0, 1) := by decide +kernel
theorem dX13_keeps_28 : decode cX13_keeps 28 = .ok (.getfield 111, 3) := by decide +kernel
theorem dX13_keeps_31 : decode cX13_keeps 31 = .ok (.iload_n 1, 1) := by decide +kernel
theorem dX13_keeps_32 : decode cX13_keeps 32 = .ok (.iaload, 1) := by decide +kernel
theorem dX13_keeps_33 : decode cX13_keeps 33 = .ok (.iastore, 1) := by decide +kernel
theorem dX13_keeps_34 : decode cX13_keeps 34 = .ok (.iinc 1 1, 3) := by decide +kernel
theorem dX13_keeps_37 : decode cX13_keeps 37 = .ok (.goto (-25), 3) := by decide +kernel
theorem dX13_keeps_40 : decode cX13_keeps 40 = .ok (.aload_n 0, 1) := by decide +kernel
theorem dX13_keeps_41 : decode cX13_keeps 41 = .ok (.dup, 1) := by decide +kernel
theorem dX13_keeps_42 : decode cX13_keeps 42 = .ok (.getfield 352, 3) := by decide +kernel
theorem dX13_keeps_45 : decode cX13_keeps 45 = .ok (.iconst 1, 1) := by decide +kernel
theorem dX13_keeps_46 : decode cX13_keeps 46 = .ok (.isub, 1) := by decide +kernel
theorem dX13_keeps_47 : decode cX13_keeps 47 = .ok (.putfield 352, 3) := by decide +kernel
theorem dX13_keeps_50 : decode cX13_keeps 50 = .ok (.iconst 0, 1) := by decide +kernel
theorem dX13_keeps_51 : decode cX13_keeps 51 = .ok (.istore_n 1, 1) := by decide +kernel
theorem dX13_keeps_52 : decode cX13_keeps 52 = .ok (.iload_n 1, 1) := by decide +kernel
theorem dX13_keeps_53 : decode cX13_keeps 53 = .ok (.bipush 31, 2) := by decide +kernel
theorem dX13_keeps_55 : decode cX13_keeps 55 = .ok (.if_icmp .ge 29, 3) := by decide +kernel
theorem dX13_keeps_58 : decode cX13_keeps 58 = .ok (.aload_n 0, 1) := by decide +kernel
theorem dX13_keeps_59 : decode cX13_keeps 59 = .ok (.getfield 111, 3) := by decide +kernel
theorem dX13_keeps_62 : decode cX13_keeps 62 = .ok (.bipush 31, 2) := by decide +kernel
theorem dX13_keeps_64 : decode cX13_keeps 64 = .ok (.aload_n 0, 1) := by decide +kernel
theorem dX13_keeps_65 : decode cX13_keeps 65 = .ok (.getfield 352, 3) := by decide +kernel
theorem dX13_keeps_68 : decode cX13_keeps 68 = .ok (.imul, 1) := by decide +kernel
theorem dX13_keeps_69 : decode cX13_keeps 69 = .ok (.iload_n 1, 1) := by decide +kernel
theorem dX13_keeps_70 : decode cX13_keeps 70 = .ok (.iadd, 1) := by decide +kernel
theorem dX13_keeps_71 : decode cX13_keeps 71 = .ok (.aload_n 0, 1) := by decide +kernel
theorem dX13_keeps_72 : decode cX13_keeps 72 = .ok (.getfield 108, 3) := by decide +kernel
theorem dX13_keeps_75 : decode cX13_keeps 75 = .ok (.iload_n 1, 1) := by decide +kernel
theorem dX13_keeps_76 : decode cX13_keeps 76 = .ok (.iaload, 1) := by decide +kernel
theorem dX13_keeps_77 : decode cX13_keeps 77 = .ok (.iastore, 1) := by decide +kernel
theorem dX13_keeps_78 : decode cX13_keeps 78 = .ok (.iinc 1 1, 3) := by decide +kernel
theorem dX13_keeps_81 : decode cX13_keeps 81 = .ok (.goto (-29), 3) := by decide +kernel
theorem dX13_keeps_84 : decode cX13_keeps 84 = .ok (.aload_n 0, 1) := by decide +kernel
theorem dX13_keeps_85 : decode cX13_keeps 85 = .ok (.dup, 1) := by decide +kernel
theorem dX13_keeps_86 : decode cX13_keeps 86 = .ok (.getfield 352, 3) := by decide +kernel
theorem dX13_keeps_89 : decode cX13_keeps 89 = .ok (.iconst 1, 1) := by decide +kernel
theorem dX13_keeps_90 : decode cX13_keeps 90 = .ok (.iadd, 1) := by decide +kernel
theorem dX13_keeps_91 : decode cX13_keeps 91 = .ok (.putfield 352, 3) := by decide +kernel
theorem dX13_keeps_94 : decode cX13_keeps 94 = .ok (.return_, 1) := by decide +kernel
theorem dX13_refuses_0 : decode cX13_refuses 0 = .ok (.aload_n 0, 1) := by decide +kernel
theorem dX13_refuses_1 : decode cX13_refuses 1 = .ok (.getfield 59, 3) := by decide +kernel
theorem dX13_refuses_4 : decode cX13_refuses 4 = .ok (.iload_n 1, 1) := by decide +kernel
theorem dX13_refuses_5 : decode cX13_refuses 5 = .ok (.dup2, 1) := by decide +kernel
theorem dX13_refuses_6 : decode cX13_refuses 6 = .ok (.iaload, 1) := by decide +kernel
theorem dX13_refuses_7 : decode cX13_refuses 7 = .ok (.iconst 1, 1) := by decide +kernel
theorem dX13_refuses_8 : decode cX13_refuses 8 = .ok (.iadd, 1) := by decide +kernel
theorem dX13_refuses_9 : decode cX13_refuses 9 = .ok (.iastore, 1) := by decide +kernel
theorem dX13_refuses_10 : decode cX13_refuses 10 = .ok (.iconst (-1), 1) := by decide +kernel
theorem dX13_refuses_11 : decode cX13_refuses 11 = .ok (.ireturn, 1) := by decide +kernel
theorem dX13_undo_0 : decode cX13_undo 0 = .ok (.aload_n 0, 1) := by decide +kernel
theorem dX13_undo_1 : decode cX13_undo 1 = .ok (.iconst 0, 1) := by decide +kernel
theorem dX13_undo_2 : decode cX13_undo 2 = .ok (.putfield 141, 3) := by decide +kernel
theorem dX13_undo_5 : decode cX13_undo 5 = .ok (.aload_n 0, 1) := by decide +kernel
theorem dX13_undo_6 : decode cX13_undo 6 = .ok (.getfield 352, 3) := by decide +kernel
theorem dX13_undo_9 : decode cX13_undo 9 = .ok (.ifCond .ne 5, 3) := by decide +kernel
theorem dX13_undo_12 : decode cX13_undo 12 = .ok (.iconst (-1), 1) := by decide +kernel
theorem dX13_undo_13 : decode cX13_undo 13 = .ok (.ireturn, 1) := by decide +kernel
theorem dX13_undo_14 : decode cX13_undo 14 = .ok (.aload_n 0, 1) := by decide +kernel
theorem dX13_undo_15 : decode cX13_undo 15 = .ok (.dup, 1) := by decide +kernel
theorem dX13_undo_16 : decode cX13_undo 16 = .ok (.getfield 352, 3) := by decide +kernel
theorem dX13_undo_19 : decode cX13_undo 19 = .ok (.iconst 1, 1) := by decide +kernel
theorem dX13_undo_20 : decode cX13_undo 20 = .ok (.isub, 1) := by decide +kernel
theorem dX13_undo_21 : decode cX13_undo 21 = .ok (.putfield 352, 3) := by decide +kernel
theorem dX13_undo_24 : decode cX13_undo 24 = .ok (.iconst 0, 1) := by decide +kernel
theorem dX13_undo_25 : decode cX13_undo 25 = .ok (.istore_n 1, 1) := by decide +kernel
theorem dX13_undo_26 : decode cX13_undo 26 = .ok (.iload_n 1, 1) := by decide +kernel
theorem dX13_undo_27 : decode cX13_undo 27 = .ok (.bipush 31, 2) := by decide +kernel
theorem dX13_undo_29 : decode cX13_undo 29 = .ok (.if_icmp .ge 29, 3) := by decide +kernel
theorem dX13_undo_32 : decode cX13_undo 32 = .ok (.aload_n 0, 1) := by decide +kernel
theorem dX13_undo_33 : decode cX13_undo 33 = .ok (.getfield 108, 3) := by decide +kernel
theorem dX13_undo_36 : decode cX13_undo 36 = .ok (.iload_n 1, 1) := by decide +kernel
theorem dX13_undo_37 : decode cX13_undo 37 = .ok (.aload_n 0, 1) := by decide +kernel
theorem dX13_undo_38 : decode cX13_undo 38 = .ok (.getfield 111, 3) := by decide +kernel
theorem dX13_undo_41 : decode cX13_undo 41 = .ok (.bipush 31, 2) := by decide +kernel
theorem dX13_undo_43 : decode cX13_undo 43 = .ok (.aload_n 0, 1) := by decide +kernel
theorem dX13_undo_44 : decode cX13_undo 44 = .ok (.getfield 352, 3) := by decide +kernel
theorem dX13_undo_47 : decode cX13_undo 47 = .ok (.imul, 1) := by decide +kernel
theorem dX13_undo_48 : decode cX13_undo 48 = .ok (.iload_n 1, 1) := by decide +kernel
theorem dX13_undo_49 : decode cX13_undo 49 = .ok (.iadd, 1) := by decide +kernel
theorem dX13_undo_50 : decode cX13_undo 50 = .ok (.iaload, 1) := by decide +kernel
theorem dX13_undo_51 : decode cX13_undo 51 = .ok (.iastore, 1) := by decide +kernel
theorem dX13_undo_52 : decode cX13_undo 52 = .ok (.iinc 1 1, 3) := by decide +kernel
theorem dX13_undo_55 : decode cX13_undo 55 = .ok (.goto (-29), 3) := by decide +kernel
theorem dX13_undo_58 : decode cX13_undo 58 = .ok (.aload_n 0, 1) := by decide +kernel
theorem dX13_undo_59 : decode cX13_undo 59 = .ok (.getfield 352, 3) := by decide +kernel
theorem dX13_undo_62 : decode cX13_undo 62 = .ok (.ireturn, 1) := by decide +kernel
theorem dX13_lays0_0 : decode cX13_lays0 0 = .ok (.iconst 0, 1) := by decide +kernel
theorem dX13_lays0_1 : decode cX13_lays0 1 = .ok (.istore_n 3, 1) := by decide +kernel
theorem dX13_lays0_2 : decode cX13_lays0 2 = .ok (.iload_n 3, 1) := by decide +kernel
theorem dX13_lays0_3 : decode cX13_lays0 3 = .ok (.bipush 31, 2) := by decide +kernel
theorem dX13_lays0_5 : decode cX13_lays0 5 = .ok (.if_icmp .ge 25, 3) := by decide +kernel
theorem dX13_lays0_8 : decode cX13_lays0 8 = .ok (.aload_n 0, 1) := by decide +kernel
theorem dX13_lays0_9 : decode cX13_lays0 9 = .ok (.getfield 108, 3) := by decide +kernel
theorem dX13_lays0_12 : decode cX13_lays0 12 = .ok (.iload_n 2, 1) := by decide +kernel
theorem dX13_lays0_13 : decode cX13_lays0 13 = .ok (.iload_n 3, 1) := by decide +kernel
theorem dX13_lays0_14 : decode cX13_lays0 14 = .ok (.iadd, 1) := by decide +kernel
theorem dX13_lays0_15 : decode cX13_lays0 15 = .ok (.aload_n 0, 1) := by decide +kernel
theorem dX13_lays0_16 : decode cX13_lays0 16 = .ok (.getfield 108, 3) := by decide +kernel
theorem dX13_lays0_19 : decode cX13_lays0 19 = .ok (.iload_n 1, 1) := by decide +kernel
theorem dX13_lays0_20 : decode cX13_lays0 20 = .ok (.iload_n 3, 1) := by decide +kernel
theorem dX13_lays0_21 : decode cX13_lays0 21 = .ok (.iadd, 1) := by decide +kernel
theorem dX13_lays0_22 : decode cX13_lays0 22 = .ok (.iaload, 1) := by decide +kernel
theorem dX13_lays0_23 : decode cX13_lays0 23 = .ok (.iastore, 1) := by decide +kernel
theorem dX13_lays0_24 : decode cX13_lays0 24 = .ok (.iinc 3 1, 3) := by decide +kernel
theorem dX13_lays0_27 : decode cX13_lays0 27 = .ok (.goto (-25), 3) := by decide +kernel
theorem dX13_lays0_30 : decode cX13_lays0 30 = .ok (.return_, 1) := by decide +kernel
theorem dX13_works_0 : decode cX13_works 0 = .ok (.iload_n 0, 1) := by decide +kernel
theorem dX13_works_1 : decode cX13_works 1 = .ok (.tableswitch 105 4 10 #[43, 57, 71, 82, 93, 97, 101], 43) := by decide +kernel
theorem dX13_works_44 : decode cX13_works 44 = .ok (.iload_n 1, 1) := by decide +kernel
theorem dX13_works_45 : decode cX13_works 45 = .ok (.ifCond .eq 11, 3) := by decide +kernel
theorem dX13_works_48 : decode cX13_works 48 = .ok (.iload_n 2, 1) := by decide +kernel
theorem dX13_works_49 : decode cX13_works 49 = .ok (.ifCond .eq 7, 3) := by decide +kernel
theorem dX13_works_52 : decode cX13_works 52 = .ok (.iconst 1, 1) := by decide +kernel
theorem dX13_works_53 : decode cX13_works 53 = .ok (.goto 4, 3) := by decide +kernel
theorem dX13_works_56 : decode cX13_works 56 = .ok (.iconst 0, 1) := by decide +kernel
theorem dX13_works_57 : decode cX13_works 57 = .ok (.ireturn, 1) := by decide +kernel
theorem dX13_works_58 : decode cX13_works 58 = .ok (.iload_n 1, 1) := by decide +kernel
theorem dX13_works_59 : decode cX13_works 59 = .ok (.ifCond .ne 7, 3) := by decide +kernel
theorem dX13_works_62 : decode cX13_works 62 = .ok (.iload_n 2, 1) := by decide +kernel
theorem dX13_works_63 : decode cX13_works 63 = .ok (.ifCond .eq 7, 3) := by decide +kernel
theorem dX13_works_66 : decode cX13_works 66 = .ok (.iconst 1, 1) := by decide +kernel
theorem dX13_works_67 : decode cX13_works 67 = .ok (.goto 4, 3) := by decide +kernel
theorem dX13_works_70 : decode cX13_works 70 = .ok (.iconst 0, 1) := by decide +kernel
theorem dX13_works_71 : decode cX13_works 71 = .ok (.ireturn, 1) := by decide +kernel
theorem dX13_works_72 : decode cX13_works 72 = .ok (.iload_n 1, 1) := by decide +kernel
theorem dX13_works_73 : decode cX13_works 73 = .ok (.iload_n 2, 1) := by decide +kernel
theorem dX13_works_74 : decode cX13_works 74 = .ok (.if_icmp .ge 7, 3) := by decide +kernel
theorem dX13_works_77 : decode cX13_works 77 = .ok (.iconst 1, 1) := by decide +kernel
theorem dX13_works_78 : decode cX13_works 78 = .ok (.goto 4, 3) := by decide +kernel
theorem dX13_works_81 : decode cX13_works 81 = .ok (.iconst 0, 1) := by decide +kernel
theorem dX13_works_82 : decode cX13_works 82 = .ok (.ireturn, 1) := by decide +kernel
theorem dX13_works_83 : decode cX13_works 83 = .ok (.iload_n 1, 1) := by decide +kernel
theorem dX13_works_84 : decode cX13_works 84 = .ok (.iload_n 2, 1) := by decide +kernel
theorem dX13_works_85 : decode cX13_works 85 = .ok (.if_icmp .ne 7, 3) := by decide +kernel
theorem dX13_works_88 : decode cX13_works 88 = .ok (.iconst 1, 1) := by decide +kernel
theorem dX13_works_89 : decode cX13_works 89 = .ok (.goto 4, 3) := by decide +kernel
theorem dX13_works_92 : decode cX13_works 92 = .ok (.iconst 0, 1) := by decide +kernel
theorem dX13_works_93 : decode cX13_works 93 = .ok (.ireturn, 1) := by decide +kernel
theorem dX13_works_94 : decode cX13_works 94 = .ok (.iload_n 1, 1) := by decide +kernel
theorem dX13_works_95 : decode cX13_works 95 = .ok (.iload_n 2, 1) := by decide +kernel
theorem dX13_works_96 : decode cX13_works 96 = .ok (.iadd, 1) := by decide +kernel
theorem dX13_works_97 : decode cX13_works 97 = .ok (.ireturn, 1) := by decide +kernel
theorem dX13_works_98 : decode cX13_works 98 = .ok (.iload_n 1, 1) := by decide +kernel
theorem dX13_works_99 : decode cX13_works 99 = .ok (.iload_n 2, 1) := by decide +kernel
theorem dX13_works_100 : decode cX13_works 100 = .ok (.isub, 1) := by decide +kernel
theorem dX13_works_101 : decode cX13_works 101 = .ok (.ireturn, 1) := by decide +kernel
theorem dX13_works_102 : decode cX13_works 102 = .ok (.iload_n 1, 1) := by decide +kernel
theorem dX13_works_103 : decode cX13_works 103 = .ok (.iload_n 2, 1) := by decide +kernel
theorem dX13_works_104 : decode cX13_works 104 = .ok (.imul, 1) := by decide +kernel
theorem dX13_works_105 : decode cX13_works 105 = .ok (.ireturn, 1) := by decide +kernel
theorem dX13_works_106 : decode cX13_works 106 = .ok (.iload_n 2, 1) := by decide +kernel
theorem dX13_works_107 : decode cX13_works 107 = .ok (.ifCond .ne 7, 3) := by decide +kernel
theorem dX13_works_110 : decode cX13_works 110 = .ok (.iconst 0, 1) := by decide +kernel
theorem dX13_works_111 : decode cX13_works 111 = .ok (.goto 6, 3) := by decide +kernel
theorem dX13_works_114 : decode cX13_works 114 = .ok (.iload_n 1, 1) := by decide +kernel
theorem dX13_works_115 : decode cX13_works 115 = .ok (.iload_n 2, 1) := by decide +kernel
theorem dX13_works_116 : decode cX13_works 116 = .ok (.idiv, 1) := by decide +kernel
theorem dX13_works_117 : decode cX13_works 117 = .ok (.ireturn, 1) := by decide +kernel
theorem dX13_reckons_0 : decode cX13_reckons 0 = .ok (.iconst 0, 1) := by decide +kernel
theorem dX13_reckons_1 : decode cX13_reckons 1 = .ok (.istore_n 2, 1) := by decide +kernel
theorem dX13_reckons_2 : decode cX13_reckons 2 = .ok (.iload_n 1, 1) := by decide +kernel
theorem dX13_reckons_3 : decode cX13_reckons 3 = .ok (.istore_n 3, 1) := by decide +kernel
theorem dX13_reckons_4 : decode cX13_reckons 4 = .ok (.aload_n 0, 1) := by decide +kernel
theorem dX13_reckons_5 : decode cX13_reckons 5 = .ok (.getfield 50, 3) := by decide +kernel
theorem dX13_reckons_8 : decode cX13_reckons 8 = .ok (.iload_n 3, 1) := by decide +kernel
theorem dX13_reckons_9 : decode cX13_reckons 9 = .ok (.iaload, 1) := by decide +kernel
theorem dX13_reckons_10 : decode cX13_reckons 10 = .ok (.ifCond .eq 133, 3) := by decide +kernel
theorem dX13_reckons_13 : decode cX13_reckons 13 = .ok (.aload_n 0, 1) := by decide +kernel
theorem dX13_reckons_14 : decode cX13_reckons 14 = .ok (.getfield 50, 3) := by decide +kernel
theorem dX13_reckons_17 : decode cX13_reckons 17 = .ok (.iload_n 3, 1) := by decide +kernel
theorem dX13_reckons_18 : decode cX13_reckons 18 = .ok (.iaload, 1) := by decide +kernel
theorem dX13_reckons_19 : decode cX13_reckons 19 = .ok (.istore 4, 2) := by decide +kernel
theorem dX13_reckons_21 : decode cX13_reckons 21 = .ok (.iinc 3 1, 3) := by decide +kernel
theorem dX13_reckons_24 : decode cX13_reckons 24 = .ok (.iload 4, 2) := by decide +kernel
theorem dX13_reckons_26 : decode cX13_reckons 26 = .ok (.iconst 1, 1) := by decide +kernel
theorem dX13_reckons_27 : decode cX13_reckons 27 = .ok (.if_icmp .eq 9, 3) := by decide +kernel
theorem dX13_reckons_30 : decode cX13_reckons 30 = .ok (.iload 4, 2) := by decide +kernel
theorem dX13_reckons_32 : decode cX13_reckons 32 = .ok (.iconst 2, 1) := by decide +kernel
theorem dX13_reckons_33 : decode cX13_reckons 33 = .ok (.if_icmp .ne 44, 3) := by decide +kernel
theorem dX13_reckons_36 : decode cX13_reckons 36 = .ok (.aload_n 0, 1) := by decide +kernel
theorem dX13_reckons_37 : decode cX13_reckons 37 = .ok (.getfield 117, 3) := by decide +kernel
theorem dX13_reckons_40 : decode cX13_reckons 40 = .ok (.iload_n 2, 1) := by decide +kernel
theorem dX13_reckons_41 : decode cX13_reckons 41 = .ok (.iload 4, 2) := by decide +kernel
theorem dX13_reckons_43 : decode cX13_reckons 43 = .ok (.iconst 1, 1) := by decide +kernel
theorem dX13_reckons_44 : decode cX13_reckons 44 = .ok (.if_icmp .ne 12, 3) := by decide +kernel
theorem dX13_reckons_47 : decode cX13_reckons 47 = .ok (.aload_n 0, 1) := by decide +kernel
theorem dX13_reckons_48 : decode cX13_reckons 48 = .ok (.getfield 50, 3) := by decide +kernel
theorem dX13_reckons_51 : decode cX13_reckons 51 = .ok (.iload_n 3, 1) := by decide +kernel
theorem dX13_reckons_52 : decode cX13_reckons 52 = .ok (.iaload, 1) := by decide +kernel
theorem dX13_reckons_53 : decode cX13_reckons 53 = .ok (.goto 14, 3) := by decide +kernel
theorem dX13_reckons_56 : decode cX13_reckons 56 = .ok (.aload_n 0, 1) := by decide +kernel
theorem dX13_reckons_57 : decode cX13_reckons 57 = .ok (.getfield 114, 3) := by decide +kernel
theorem dX13_reckons_60 : decode cX13_reckons 60 = .ok (.aload_n 0, 1) := by decide +kernel
theorem dX13_reckons_61 : decode cX13_reckons 61 = .ok (.getfield 50, 3) := by decide +kernel
theorem dX13_reckons_64 : decode cX13_reckons 64 = .ok (.iload_n 3, 1) := by decide +kernel
theorem dX13_reckons_65 : decode cX13_reckons 65 = .ok (.iaload, 1) := by decide +kernel
theorem dX13_reckons_66 : decode cX13_reckons 66 = .ok (.iaload, 1) := by decide +kernel
theorem dX13_reckons_67 : decode cX13_reckons 67 = .ok (.iastore, 1) := by decide +kernel
theorem dX13_reckons_68 : decode cX13_reckons 68 = .ok (.iinc 3 1, 3) := by decide +kernel
theorem dX13_reckons_71 : decode cX13_reckons 71 = .ok (.iinc 2 1, 3) := by decide +kernel
theorem dX13_reckons_74 : decode cX13_reckons 74 = .ok (.goto 66, 3) := by decide +kernel
theorem dX13_reckons_77 : decode cX13_reckons 77 = .ok (.iload 4, 2) := by decide +kernel
theorem dX13_reckons_79 : decode cX13_reckons 79 = .ok (.iconst 3, 1) := by decide +kernel
theorem dX13_reckons_80 : decode cX13_reckons 80 = .ok (.if_icmp .ne 30, 3) := by decide +kernel
theorem dX13_reckons_83 : decode cX13_reckons 83 = .ok (.aload_n 0, 1) := by decide +kernel
theorem dX13_reckons_84 : decode cX13_reckons 84 = .ok (.getfield 117, 3) := by decide +kernel
theorem dX13_reckons_87 : decode cX13_reckons 87 = .ok (.iload_n 2, 1) := by decide +kernel
theorem dX13_reckons_88 : decode cX13_reckons 88 = .ok (.iconst 1, 1) := by decide +kernel
theorem dX13_reckons_89 : decode cX13_reckons 89 = .ok (.isub, 1) := by decide +kernel
theorem dX13_reckons_90 : decode cX13_reckons 90 = .ok (.aload_n 0, 1) := by decide +kernel
theorem dX13_reckons_91 : decode cX13_reckons 91 = .ok (.getfield 117, 3) := by decide +kernel
theorem dX13_reckons_94 : decode cX13_reckons 94 = .ok (.iload_n 2, 1) := by decide +kernel
theorem dX13_reckons_95 : decode cX13_reckons 95 = .ok (.iconst 1, 1) := by decide +kernel
theorem dX13_reckons_96 : decode cX13_reckons 96 = .ok (.isub, 1) := by decide +kernel
theorem dX13_reckons_97 : decode cX13_reckons 97 = .ok (.iaload, 1) := by decide +kernel
theorem dX13_reckons_98 : decode cX13_reckons 98 = .ok (.ifCond .ne 7, 3) := by decide +kernel
theorem dX13_reckons_101 : decode cX13_reckons 101 = .ok (.iconst 1, 1) := by decide +kernel
theorem dX13_reckons_102 : decode cX13_reckons 102 = .ok (.goto 4, 3) := by decide +kernel
theorem dX13_reckons_105 : decode cX13_reckons 105 = .ok (.iconst 0, 1) := by decide +kernel
theorem dX13_reckons_106 : decode cX13_reckons 106 = .ok (.iastore, 1) := by decide +kernel
theorem dX13_reckons_107 : decode cX13_reckons 107 = .ok (.goto 33, 3) := by decide +kernel
theorem dX13_reckons_110 : decode cX13_reckons 110 = .ok (.iinc 2 (-1), 3) := by decide +kernel
theorem dX13_reckons_113 : decode cX13_reckons 113 = .ok (.aload_n 0, 1) := by decide +kernel
theorem dX13_reckons_114 : decode cX13_reckons 114 = .ok (.getfield 117, 3) := by decide +kernel
theorem dX13_reckons_117 : decode cX13_reckons 117 = .ok (.iload_n 2, 1) := by decide +kernel
theorem dX13_reckons_118 : decode cX13_reckons 118 = .ok (.iconst 1, 1) := by decide +kernel
theorem dX13_reckons_119 : decode cX13_reckons 119 = .ok (.isub, 1) := by decide +kernel
theorem dX13_reckons_120 : decode cX13_reckons 120 = .ok (.iload 4, 2) := by decide +kernel
theorem dX13_reckons_122 : decode cX13_reckons 122 = .ok (.aload_n 0, 1) := by decide +kernel
theorem dX13_reckons_123 : decode cX13_reckons 123 = .ok (.getfield 117, 3) := by decide +kernel
theorem dX13_reckons_126 : decode cX13_reckons 126 = .ok (.iload_n 2, 1) := by decide +kernel
theorem dX13_reckons_127 : decode cX13_reckons 127 = .ok (.iconst 1, 1) := by decide +kernel
theorem dX13_reckons_128 : decode cX13_reckons 128 = .ok (.isub, 1) := by decide +kernel
theorem dX13_reckons_129 : decode cX13_reckons 129 = .ok (.iaload, 1) := by decide +kernel
theorem dX13_reckons_130 : decode cX13_reckons 130 = .ok (.aload_n 0, 1) := by decide +kernel
theorem dX13_reckons_131 : decode cX13_reckons 131 = .ok (.getfield 117, 3) := by decide +kernel
theorem dX13_reckons_134 : decode cX13_reckons 134 = .ok (.iload_n 2, 1) := by decide +kernel
theorem dX13_reckons_135 : decode cX13_reckons 135 = .ok (.iaload, 1) := by decide +kernel
theorem dX13_reckons_136 : decode cX13_reckons 136 = .ok (.invokestatic 361, 3) := by decide +kernel
theorem dX13_reckons_139 : decode cX13_reckons 139 = .ok (.iastore, 1) := by decide +kernel
theorem dX13_reckons_140 : decode cX13_reckons 140 = .ok (.goto (-136), 3) := by decide +kernel
theorem dX13_reckons_143 : decode cX13_reckons 143 = .ok (.aload_n 0, 1) := by decide +kernel
theorem dX13_reckons_144 : decode cX13_reckons 144 = .ok (.getfield 117, 3) := by decide +kernel
theorem dX13_reckons_147 : decode cX13_reckons 147 = .ok (.iconst 0, 1) := by decide +kernel
theorem dX13_reckons_148 : decode cX13_reckons 148 = .ok (.iaload, 1) := by decide +kernel
theorem dX13_reckons_149 : decode cX13_reckons 149 = .ok (.ireturn, 1) := by decide +kernel
theorem dX13_likeOf_0 : decode cX13_likeOf 0 = .ok (.aload_n 0, 1) := by decide +kernel
theorem dX13_likeOf_1 : decode cX13_likeOf 1 = .ok (.getfield 108, 3) := by decide +kernel
theorem dX13_likeOf_4 : decode cX13_likeOf 4 = .ok (.iload_n 1, 1) := by decide +kernel
theorem dX13_likeOf_5 : decode cX13_likeOf 5 = .ok (.bipush 25, 2) := by decide +kernel
theorem dX13_likeOf_7 : decode cX13_likeOf 7 = .ok (.iadd, 1) := by decide +kernel
theorem dX13_likeOf_8 : decode cX13_likeOf 8 = .ok (.iload_n 2, 1) := by decide +kernel
theorem dX13_likeOf_9 : decode cX13_likeOf 9 = .ok (.iadd, 1) := by decide +kernel
theorem dX13_likeOf_10 : decode cX13_likeOf 10 = .ok (.iaload, 1) := by decide +kernel
theorem dX13_likeOf_11 : decode cX13_likeOf 11 = .ok (.istore 5, 2) := by decide +kernel
theorem dX13_likeOf_13 : decode cX13_likeOf 13 = .ok (.aload_n 0, 1) := by decide +kernel
theorem dX13_likeOf_14 : decode cX13_likeOf 14 = .ok (.getfield 114, 3) := by decide +kernel
theorem dX13_likeOf_17 : decode cX13_likeOf 17 = .ok (.iconst 3, 1) := by decide +kernel
theorem dX13_likeOf_18 : decode cX13_likeOf 18 = .ok (.aload_n 0, 1) := by decide +kernel
theorem dX13_likeOf_19 : decode cX13_likeOf 19 = .ok (.getfield 108, 3) := by decide +kernel
theorem dX13_likeOf_22 : decode cX13_likeOf 22 = .ok (.iload_n 1, 1) := by decide +kernel
theorem dX13_likeOf_23 : decode cX13_likeOf 23 = .ok (.iconst 0, 1) := by decide +kernel
theorem dX13_likeOf_24 : decode cX13_likeOf 24 = .ok (.iadd, 1) := by decide +kernel
theorem dX13_likeOf_25 : decode cX13_likeOf 25 = .ok (.iaload, 1) := by decide +kernel
theorem dX13_likeOf_26 : decode cX13_likeOf 26 = .ok (.iastore, 1) := by decide +kernel
theorem dX13_likeOf_27 : decode cX13_likeOf 27 = .ok (.aload_n 0, 1) := by decide +kernel
theorem dX13_likeOf_28 : decode cX13_likeOf 28 = .ok (.getfield 114, 3) := by decide +kernel
theorem dX13_likeOf_31 : decode cX13_likeOf 31 = .ok (.iconst 4, 1) := by decide +kernel
theorem dX13_likeOf_32 : decode cX13_likeOf 32 = .ok (.aload_n 0, 1) := by decide +kernel
theorem dX13_likeOf_33 : decode cX13_likeOf 33 = .ok (.getfield 108, 3) := by decide +kernel
theorem dX13_likeOf_36 : decode cX13_likeOf 36 = .ok (.iload_n 1, 1) := by decide +kernel
theorem dX13_likeOf_37 : decode cX13_likeOf 37 = .ok (.iconst 2, 1) := by decide +kernel
theorem dX13_likeOf_38 : decode cX13_likeOf 38 = .ok (.iadd, 1) := by decide +kernel
theorem dX13_likeOf_39 : decode cX13_likeOf 39 = .ok (.iaload, 1) := by decide +kernel
theorem dX13_likeOf_40 : decode cX13_likeOf 40 = .ok (.iastore, 1) := by decide +kernel
theorem dX13_likeOf_41 : decode cX13_likeOf 41 = .ok (.aload_n 0, 1) := by decide +kernel
theorem dX13_likeOf_42 : decode cX13_likeOf 42 = .ok (.getfield 114, 3) := by decide +kernel
theorem dX13_likeOf_45 : decode cX13_likeOf 45 = .ok (.iconst 5, 1) := by decide +kernel
theorem dX13_likeOf_46 : decode cX13_likeOf 46 = .ok (.aload_n 0, 1) := by decide +kernel
theorem dX13_likeOf_47 : decode cX13_likeOf 47 = .ok (.getfield 108, 3) := by decide +kernel
theorem dX13_likeOf_50 : decode cX13_likeOf 50 = .ok (.iload_n 1, 1) := by decide +kernel
theorem dX13_likeOf_51 : decode cX13_likeOf 51 = .ok (.bipush 6, 2) := by decide +kernel
theorem dX13_likeOf_53 : decode cX13_likeOf 53 = .ok (.iadd, 1) := by decide +kernel
theorem dX13_likeOf_54 : decode cX13_likeOf 54 = .ok (.iload_n 3, 1) := by decide +kernel
theorem dX13_likeOf_55 : decode cX13_likeOf 55 = .ok (.iadd, 1) := by decide +kernel
theorem dX13_likeOf_56 : decode cX13_likeOf 56 = .ok (.iaload, 1) := by decide +kernel
theorem dX13_likeOf_57 : decode cX13_likeOf 57 = .ok (.iload 4, 2) := by decide +kernel
theorem dX13_likeOf_59 : decode cX13_likeOf 59 = .ok (.iadd, 1) := by decide +kernel
theorem dX13_likeOf_60 : decode cX13_likeOf 60 = .ok (.iastore, 1) := by decide +kernel
theorem dX13_likeOf_61 : decode cX13_likeOf 61 = .ok (.aload_n 0, 1) := by decide +kernel
theorem dX13_likeOf_62 : decode cX13_likeOf 62 = .ok (.getfield 114, 3) := by decide +kernel
theorem dX13_likeOf_65 : decode cX13_likeOf 65 = .ok (.bipush 6, 2) := by decide +kernel
theorem dX13_likeOf_67 : decode cX13_likeOf 67 = .ok (.aload_n 0, 1) := by decide +kernel
theorem dX13_likeOf_68 : decode cX13_likeOf 68 = .ok (.getfield 108, 3) := by decide +kernel
theorem dX13_likeOf_71 : decode cX13_likeOf 71 = .ok (.iload_n 1, 1) := by decide +kernel
theorem dX13_likeOf_72 : decode cX13_likeOf 72 = .ok (.iconst 4, 1) := by decide +kernel
theorem dX13_likeOf_73 : decode cX13_likeOf 73 = .ok (.iadd, 1) := by decide +kernel
theorem dX13_likeOf_74 : decode cX13_likeOf 74 = .ok (.iaload, 1) := by decide +kernel
theorem dX13_likeOf_75 : decode cX13_likeOf 75 = .ok (.iload_n 3, 1) := by decide +kernel
theorem dX13_likeOf_76 : decode cX13_likeOf 76 = .ok (.if_icmp .ne 7, 3) := by decide +kernel
theorem dX13_likeOf_79 : decode cX13_likeOf 79 = .ok (.iconst 1, 1) := by decide +kernel
theorem dX13_likeOf_80 : decode cX13_likeOf 80 = .ok (.goto 4, 3) := by decide +kernel
theorem dX13_likeOf_83 : decode cX13_likeOf 83 = .ok (.iconst 0, 1) := by decide +kernel
theorem dX13_likeOf_84 : decode cX13_likeOf 84 = .ok (.iastore, 1) := by decide +kernel
theorem dX13_likeOf_85 : decode cX13_likeOf 85 = .ok (.aload_n 0, 1) := by decide +kernel
theorem dX13_likeOf_86 : decode cX13_likeOf 86 = .ok (.getfield 114, 3) := by decide +kernel
theorem dX13_likeOf_89 : decode cX13_likeOf 89 = .ok (.bipush 7, 2) := by decide +kernel
theorem dX13_likeOf_91 : decode cX13_likeOf 91 = .ok (.iload_n 3, 1) := by decide +kernel
theorem dX13_likeOf_92 : decode cX13_likeOf 92 = .ok (.ifCond .ne 10, 3) := by decide +kernel
theorem dX13_likeOf_95 : decode cX13_likeOf 95 = .ok (.iconst 0, 1) := by decide +kernel
theorem dX13_likeOf_96 : decode cX13_likeOf 96 = .ok (.iload 5, 2) := by decide +kernel
theorem dX13_likeOf_98 : decode cX13_likeOf 98 = .ok (.isub, 1) := by decide +kernel
theorem dX13_likeOf_99 : decode cX13_likeOf 99 = .ok (.goto 5, 3) := by decide +kernel
theorem dX13_likeOf_102 : decode cX13_likeOf 102 = .ok (.iload 5, 2) := by decide +kernel
theorem dX13_likeOf_104 : decode cX13_likeOf 104 = .ok (.iastore, 1) := by decide +kernel
theorem dX13_likeOf_105 : decode cX13_likeOf 105 = .ok (.aload_n 0, 1) := by decide +kernel
theorem dX13_likeOf_106 : decode cX13_likeOf 106 = .ok (.aload_n 0, 1) := by decide +kernel
theorem dX13_likeOf_107 : decode cX13_likeOf 107 = .ok (.getfield 13, 3) := by decide +kernel
theorem dX13_likeOf_110 : decode cX13_likeOf 110 = .ok (.invokevirtual 365, 3) := by decide +kernel
theorem dX13_likeOf_113 : decode cX13_likeOf 113 = .ok (.ireturn, 1) := by decide +kernel
theorem dX13_follows_0 : decode cX13_follows 0 = .ok (.aload_n 0, 1) := by decide +kernel
theorem dX13_follows_1 : decode cX13_follows 1 = .ok (.getfield 13, 3) := by decide +kernel
theorem dX13_follows_4 : decode cX13_follows 4 = .ok (.iconst (-1), 1) := by decide +kernel
theorem dX13_follows_5 : decode cX13_follows 5 = .ok (.if_icmp .ne 23, 3) := by decide +kernel
theorem dX13_follows_8 : decode cX13_follows 8 = .ok (.aload_n 0, 1) := by decide +kernel
theorem dX13_follows_9 : decode cX13_follows 9 = .ok (.getfield 108, 3) := by decide +kernel
theorem dX13_follows_12 : decode cX13_follows 12 = .ok (.iload_n 1, 1) := by decide +kernel
theorem dX13_follows_13 : decode cX13_follows 13 = .ok (.bipush 25, 2) := by decide +kernel
theorem dX13_follows_15 : decode cX13_follows 15 = .ok (.iadd, 1) := by decide +kernel
theorem dX13_follows_16 : decode cX13_follows 16 = .ok (.iload_n 2, 1) := by decide +kernel
theorem dX13_follows_17 : decode cX13_follows 17 = .ok (.iadd, 1) := by decide +kernel
theorem dX13_follows_18 : decode cX13_follows 18 = .ok (.iaload, 1) := by decide +kernel
theorem dX13_follows_19 : decode cX13_follows 19 = .ok (.ifCond .le 7, 3) := by decide +kernel
theorem dX13_follows_22 : decode cX13_follows 22 = .ok (.iconst 1, 1) := by decide +kernel
theorem dX13_follows_23 : decode cX13_follows 23 = .ok (.goto 4, 3) := by decide +kernel
theorem dX13_follows_26 : decode cX13_follows 26 = .ok (.iconst 0, 1) := by decide +kernel
theorem dX13_follows_27 : decode cX13_follows 27 = .ok (.ireturn, 1) := by decide +kernel
theorem dX13_follows_28 : decode cX13_follows 28 = .ok (.aload_n 0, 1) := by decide +kernel
theorem dX13_follows_29 : decode cX13_follows 29 = .ok (.iload_n 1, 1) := by decide +kernel
theorem dX13_follows_30 : decode cX13_follows 30 = .ok (.iload_n 2, 1) := by decide +kernel
theorem dX13_follows_31 : decode cX13_follows 31 = .ok (.iconst 0, 1) := by decide +kernel
theorem dX13_follows_32 : decode cX13_follows 32 = .ok (.iload_n 3, 1) := by decide +kernel
theorem dX13_follows_33 : decode cX13_follows 33 = .ok (.ifCond .ne 8, 3) := by decide +kernel
theorem dX13_follows_36 : decode cX13_follows 36 = .ok (.iload 4, 2) := by decide +kernel
theorem dX13_follows_38 : decode cX13_follows 38 = .ok (.goto 4, 3) := by decide +kernel
theorem dX13_follows_41 : decode cX13_follows 41 = .ok (.iconst 0, 1) := by decide +kernel
theorem dX13_follows_42 : decode cX13_follows 42 = .ok (.invokevirtual 368, 3) := by decide +kernel
theorem dX13_follows_45 : decode cX13_follows 45 = .ok (.istore 5, 2) := by decide +kernel
theorem dX13_follows_47 : decode cX13_follows 47 = .ok (.aload_n 0, 1) := by decide +kernel
theorem dX13_follows_48 : decode cX13_follows 48 = .ok (.iload_n 1, 1) := by decide +kernel
theorem dX13_follows_49 : decode cX13_follows 49 = .ok (.iload_n 2, 1) := by decide +kernel
theorem dX13_follows_50 : decode cX13_follows 50 = .ok (.iconst 1, 1) := by decide +kernel
theorem dX13_follows_51 : decode cX13_follows 51 = .ok (.iload_n 3, 1) := by decide +kernel
theorem dX13_follows_52 : decode cX13_follows 52 = .ok (.iconst 1, 1) := by decide +kernel
theorem dX13_follows_53 : decode cX13_follows 53 = .ok (.if_icmp .ne 8, 3) := by decide +kernel
theorem dX13_follows_56 : decode cX13_follows 56 = .ok (.iload 4, 2) := by decide +kernel
theorem dX13_follows_58 : decode cX13_follows 58 = .ok (.goto 4, 3) := by decide +kernel
theorem dX13_follows_61 : decode cX13_follows 61 = .ok (.iconst 0, 1) := by decide +kernel
theorem dX13_follows_62 : decode cX13_follows 62 = .ok (.invokevirtual 368, 3) := by decide +kernel
theorem dX13_follows_65 : decode cX13_follows 65 = .ok (.istore 6, 2) := by decide +kernel
theorem dX13_follows_67 : decode cX13_follows 67 = .ok (.iload 6, 2) := by decide +kernel
theorem dX13_follows_69 : decode cX13_follows 69 = .ok (.iload 5, 2) := by decide +kernel
theorem dX13_follows_71 : decode cX13_follows 71 = .ok (.if_icmp .le 7, 3) := by decide +kernel
theorem dX13_follows_74 : decode cX13_follows 74 = .ok (.iconst 1, 1) := by decide +kernel
theorem dX13_follows_75 : decode cX13_follows 75 = .ok (.goto 4, 3) := by decide +kernel
theorem dX13_follows_78 : decode cX13_follows 78 = .ok (.iconst 0, 1) := by decide +kernel
theorem dX13_follows_79 : decode cX13_follows 79 = .ok (.ireturn, 1) := by decide +kernel
theorem dX13_followers_0 : decode cX13_followers 0 = .ok (.iconst 0, 1) := by decide +kernel
theorem dX13_followers_1 : decode cX13_followers 1 = .ok (.istore_n 3, 1) := by decide +kernel
theorem dX13_followers_2 : decode cX13_followers 2 = .ok (.iconst 0, 1) := by decide +kernel
theorem dX13_followers_3 : decode cX13_followers 3 = .ok (.istore 4, 2) := by decide +kernel
theorem dX13_followers_5 : decode cX13_followers 5 = .ok (.iload 4, 2) := by decide +kernel
theorem dX13_followers_7 : decode cX13_followers 7 = .ok (.aload_n 0, 1) := by decide +kernel
theorem dX13_followers_8 : decode cX13_followers 8 = .ok (.getfield 339, 3) := by decide +kernel
theorem dX13_followers_11 : decode cX13_followers 11 = .ok (.if_icmp .ge 33, 3) := by decide +kernel
theorem dX13_followers_14 : decode cX13_followers 14 = .ok (.iload_n 3, 1) := by decide +kernel
theorem dX13_followers_15 : decode cX13_followers 15 = .ok (.aload_n 0, 1) := by decide +kernel
theorem dX13_followers_16 : decode cX13_followers 16 = .ok (.iload_n 1, 1) := by decide +kernel
theorem dX13_followers_17 : decode cX13_followers 17 = .ok (.iload 4, 2) := by decide +kernel
theorem dX13_followers_19 : decode cX13_followers 19 = .ok (.iconst 0, 1) := by decide +kernel
theorem dX13_followers_20 : decode cX13_followers 20 = .ok (.iconst 0, 1) := by decide +kernel
theorem dX13_followers_21 : decode cX13_followers 21 = .ok (.invokevirtual 372, 3) := by decide +kernel
theorem dX13_followers_24 : decode cX13_followers 24 = .ok (.iload_n 2, 1) := by decide +kernel
theorem dX13_followers_25 : decode cX13_followers 25 = .ok (.if_icmp .ne 10, 3) := by decide +kernel
theorem dX13_followers_28 : decode cX13_followers 28 = .ok (.iconst 1, 1) := by decide +kernel
theorem dX13_followers_29 : decode cX13_followers 29 = .ok (.iload 4, 2) := by decide +kernel
theorem dX13_followers_31 : decode cX13_followers 31 = .ok (.ishl, 1) := by decide +kernel
theorem dX13_followers_32 : decode cX13_followers 32 = .ok (.goto 4, 3) := by decide +kernel
theorem dX13_followers_35 : decode cX13_followers 35 = .ok (.iconst 0, 1) := by decide +kernel
theorem dX13_followers_36 : decode cX13_followers 36 = .ok (.ior, 1) := by decide +kernel
theorem dX13_followers_37 : decode cX13_followers 37 = .ok (.istore_n 3, 1) := by decide +kernel
theorem dX13_followers_38 : decode cX13_followers 38 = .ok (.iinc 4 1, 3) := by decide +kernel
theorem dX13_followers_41 : decode cX13_followers 41 = .ok (.goto (-36), 3) := by decide +kernel
theorem dX13_followers_44 : decode cX13_followers 44 = .ok (.iload_n 3, 1) := by decide +kernel
theorem dX13_followers_45 : decode cX13_followers 45 = .ok (.ireturn, 1) := by decide +kernel
theorem dX13_menOf_0 : decode cX13_menOf 0 = .ok (.iconst 0, 1) := by decide +kernel
theorem dX13_menOf_1 : decode cX13_menOf 1 = .ok (.istore_n 2, 1) := by decide +kernel
theorem dX13_menOf_2 : decode cX13_menOf 2 = .ok (.iconst 0, 1) := by decide +kernel
theorem dX13_menOf_3 : decode cX13_menOf 3 = .ok (.istore_n 3, 1) := by decide +kernel
theorem dX13_menOf_4 : decode cX13_menOf 4 = .ok (.iload_n 3, 1) := by decide +kernel
theorem dX13_menOf_5 : decode cX13_menOf 5 = .ok (.aload_n 0, 1) := by decide +kernel
theorem dX13_menOf_6 : decode cX13_menOf 6 = .ok (.getfield 339, 3) := by decide +kernel
theorem dX13_menOf_9 : decode cX13_menOf 9 = .ok (.if_icmp .ge 31, 3) := by decide +kernel
theorem dX13_menOf_12 : decode cX13_menOf 12 = .ok (.iload_n 2, 1) := by decide +kernel
theorem dX13_menOf_13 : decode cX13_menOf 13 = .ok (.iload_n 1, 1) := by decide +kernel
theorem dX13_menOf_14 : decode cX13_menOf 14 = .ok (.iload_n 3, 1) := by decide +kernel
theorem dX13_menOf_15 : decode cX13_menOf 15 = .ok (.ishr, 1) := by decide +kernel
theorem dX13_menOf_16 : decode cX13_menOf 16 = .ok (.iconst 1, 1) := by decide +kernel
theorem dX13_menOf_17 : decode cX13_menOf 17 = .ok (.iand, 1) := by decide +kernel
theorem dX13_menOf_18 : decode cX13_menOf 18 = .ok (.iconst 1, 1) := by decide +kernel
theorem dX13_menOf_19 : decode cX13_menOf 19 = .ok (.if_icmp .ne 12, 3) := by decide +kernel
theorem dX13_menOf_22 : decode cX13_menOf 22 = .ok (.aload_n 0, 1) := by decide +kernel
theorem dX13_menOf_23 : decode cX13_menOf 23 = .ok (.getfield 35, 3) := by decide +kernel
theorem dX13_menOf_26 : decode cX13_menOf 26 = .ok (.iload_n 3, 1) := by decide +kernel
theorem dX13_menOf_27 : decode cX13_menOf 27 = .ok (.iaload, 1) := by decide +kernel
theorem dX13_menOf_28 : decode cX13_menOf 28 = .ok (.goto 4, 3) := by decide +kernel
theorem dX13_menOf_31 : decode cX13_menOf 31 = .ok (.iconst 0, 1) := by decide +kernel
theorem dX13_menOf_32 : decode cX13_menOf 32 = .ok (.iadd, 1) := by decide +kernel
theorem dX13_menOf_33 : decode cX13_menOf 33 = .ok (.istore_n 2, 1) := by decide +kernel
theorem dX13_menOf_34 : decode cX13_menOf 34 = .ok (.iinc 3 1, 3) := by decide +kernel
theorem dX13_menOf_37 : decode cX13_menOf 37 = .ok (.goto (-33), 3) := by decide +kernel
theorem dX13_menOf_40 : decode cX13_menOf 40 = .ok (.iload_n 2, 1) := by decide +kernel
theorem dX13_menOf_41 : decode cX13_menOf 41 = .ok (.ireturn, 1) := by decide +kernel
theorem dX13_isStaying_0 : decode cX13_isStaying 0 = .ok (.aload_n 0, 1) := by decide +kernel
theorem dX13_isStaying_1 : decode cX13_isStaying 1 = .ok (.getfield 9, 3) := by decide +kernel
theorem dX13_isStaying_4 : decode cX13_isStaying 4 = .ok (.iconst (-1), 1) := by decide +kernel
theorem dX13_isStaying_5 : decode cX13_isStaying 5 = .ok (.if_icmp .ne 5, 3) := by decide +kernel
theorem dX13_isStaying_8 : decode cX13_isStaying 8 = .ok (.iconst 0, 1) := by decide +kernel
theorem dX13_isStaying_9 : decode cX13_isStaying 9 = .ok (.ireturn, 1) := by decide +kernel
theorem dX13_isStaying_10 : decode cX13_isStaying 10 = .ok (.aload_n 0, 1) := by decide +kernel
theorem dX13_isStaying_11 : decode cX13_isStaying 11 = .ok (.getfield 108, 3) := by decide +kernel
theorem dX13_isStaying_14 : decode cX13_isStaying 14 = .ok (.iload_n 1, 1) := by decide +kernel
theorem dX13_isStaying_15 : decode cX13_isStaying 15 = .ok (.iconst 4, 1) := by decide +kernel
theorem dX13_isStaying_16 : decode cX13_isStaying 16 = .ok (.iadd, 1) := by decide +kernel
theorem dX13_isStaying_17 : decode cX13_isStaying 17 = .ok (.iaload, 1) := by decide +kernel
theorem dX13_isStaying_18 : decode cX13_isStaying 18 = .ok (.istore_n 2, 1) := by decide +kernel
theorem dX13_isStaying_19 : decode cX13_isStaying 19 = .ok (.aload_n 0, 1) := by decide +kernel
theorem dX13_isStaying_20 : decode cX13_isStaying 20 = .ok (.aload_n 0, 1) := by decide +kernel
theorem dX13_isStaying_21 : decode cX13_isStaying 21 = .ok (.iload_n 1, 1) := by decide +kernel
theorem dX13_isStaying_22 : decode cX13_isStaying 22 = .ok (.iload_n 2, 1) := by decide +kernel
theorem dX13_isStaying_23 : decode cX13_isStaying 23 = .ok (.invokevirtual 375, 3) := by decide +kernel
theorem dX13_isStaying_26 : decode cX13_isStaying 26 = .ok (.invokevirtual 378, 3) := by decide +kernel
theorem dX13_isStaying_29 : decode cX13_isStaying 29 = .ok (.istore_n 3, 1) := by decide +kernel
theorem dX13_isStaying_30 : decode cX13_isStaying 30 = .ok (.aload_n 0, 1) := by decide +kernel
theorem dX13_isStaying_31 : decode cX13_isStaying 31 = .ok (.getfield 114, 3) := by decide +kernel
theorem dX13_isStaying_34 : decode cX13_isStaying 34 = .ok (.iconst 0, 1) := by decide +kernel
theorem dX13_isStaying_35 : decode cX13_isStaying 35 = .ok (.aload_n 0, 1) := by decide +kernel
theorem dX13_isStaying_36 : decode cX13_isStaying 36 = .ok (.getfield 108, 3) := by decide +kernel
theorem dX13_isStaying_39 : decode cX13_isStaying 39 = .ok (.iload_n 1, 1) := by decide +kernel
theorem dX13_isStaying_40 : decode cX13_isStaying 40 = .ok (.iconst 1, 1) := by decide +kernel
theorem dX13_isStaying_41 : decode cX13_isStaying 41 = .ok (.iadd, 1) := by decide +kernel
theorem dX13_isStaying_42 : decode cX13_isStaying 42 = .ok (.iaload, 1) := by decide +kernel
theorem dX13_isStaying_43 : decode cX13_isStaying 43 = .ok (.iastore, 1) := by decide +kernel
theorem dX13_isStaying_44 : decode cX13_isStaying 44 = .ok (.aload_n 0, 1) := by decide +kernel
theorem dX13_isStaying_45 : decode cX13_isStaying 45 = .ok (.getfield 114, 3) := by decide +kernel
theorem dX13_isStaying_48 : decode cX13_isStaying 48 = .ok (.iconst 1, 1) := by decide +kernel
theorem dX13_isStaying_49 : decode cX13_isStaying 49 = .ok (.aload_n 0, 1) := by decide +kernel
theorem dX13_isStaying_50 : decode cX13_isStaying 50 = .ok (.getfield 108, 3) := by decide +kernel
theorem dX13_isStaying_53 : decode cX13_isStaying 53 = .ok (.iload_n 1, 1) := by decide +kernel
theorem dX13_isStaying_54 : decode cX13_isStaying 54 = .ok (.iconst 3, 1) := by decide +kernel
theorem dX13_isStaying_55 : decode cX13_isStaying 55 = .ok (.iadd, 1) := by decide +kernel
theorem dX13_isStaying_56 : decode cX13_isStaying 56 = .ok (.iaload, 1) := by decide +kernel
theorem dX13_isStaying_57 : decode cX13_isStaying 57 = .ok (.iastore, 1) := by decide +kernel
theorem dX13_isStaying_58 : decode cX13_isStaying 58 = .ok (.aload_n 0, 1) := by decide +kernel
theorem dX13_isStaying_59 : decode cX13_isStaying 59 = .ok (.getfield 114, 3) := by decide +kernel
theorem dX13_isStaying_62 : decode cX13_isStaying 62 = .ok (.iconst 2, 1) := by decide +kernel
theorem dX13_isStaying_63 : decode cX13_isStaying 63 = .ok (.iload_n 3, 1) := by decide +kernel
theorem dX13_isStaying_64 : decode cX13_isStaying 64 = .ok (.iastore, 1) := by decide +kernel
theorem dX13_isStaying_65 : decode cX13_isStaying 65 = .ok (.aload_n 0, 1) := by decide +kernel
theorem dX13_isStaying_66 : decode cX13_isStaying 66 = .ok (.getfield 114, 3) := by decide +kernel
theorem dX13_isStaying_69 : decode cX13_isStaying 69 = .ok (.iconst 3, 1) := by decide +kernel
theorem dX13_isStaying_70 : decode cX13_isStaying 70 = .ok (.aload_n 0, 1) := by decide +kernel
theorem dX13_isStaying_71 : decode cX13_isStaying 71 = .ok (.getfield 108, 3) := by decide +kernel
theorem dX13_isStaying_74 : decode cX13_isStaying 74 = .ok (.iload_n 1, 1) := by decide +kernel
theorem dX13_isStaying_75 : decode cX13_isStaying 75 = .ok (.iconst 0, 1) := by decide +kernel
theorem dX13_isStaying_76 : decode cX13_isStaying 76 = .ok (.iadd, 1) := by decide +kernel
theorem dX13_isStaying_77 : decode cX13_isStaying 77 = .ok (.iaload, 1) := by decide +kernel
theorem dX13_isStaying_78 : decode cX13_isStaying 78 = .ok (.iastore, 1) := by decide +kernel
theorem dX13_isStaying_79 : decode cX13_isStaying 79 = .ok (.aload_n 0, 1) := by decide +kernel
theorem dX13_isStaying_80 : decode cX13_isStaying 80 = .ok (.getfield 114, 3) := by decide +kernel
theorem dX13_isStaying_83 : decode cX13_isStaying 83 = .ok (.iconst 4, 1) := by decide +kernel
theorem dX13_isStaying_84 : decode cX13_isStaying 84 = .ok (.aload_n 0, 1) := by decide +kernel
theorem dX13_isStaying_85 : decode cX13_isStaying 85 = .ok (.getfield 108, 3) := by decide +kernel
theorem dX13_isStaying_88 : decode cX13_isStaying 88 = .ok (.iload_n 1, 1) := by decide +kernel
theorem dX13_isStaying_89 : decode cX13_isStaying 89 = .ok (.iconst 2, 1) := by decide +kernel
theorem dX13_isStaying_90 : decode cX13_isStaying 90 = .ok (.iadd, 1) := by decide +kernel
theorem dX13_isStaying_91 : decode cX13_isStaying 91 = .ok (.iaload, 1) := by decide +kernel
theorem dX13_isStaying_92 : decode cX13_isStaying 92 = .ok (.iastore, 1) := by decide +kernel
theorem dX13_isStaying_93 : decode cX13_isStaying 93 = .ok (.aload_n 0, 1) := by decide +kernel
theorem dX13_isStaying_94 : decode cX13_isStaying 94 = .ok (.getfield 114, 3) := by decide +kernel
theorem dX13_isStaying_97 : decode cX13_isStaying 97 = .ok (.iconst 5, 1) := by decide +kernel
theorem dX13_isStaying_98 : decode cX13_isStaying 98 = .ok (.aload_n 0, 1) := by decide +kernel
theorem dX13_isStaying_99 : decode cX13_isStaying 99 = .ok (.getfield 108, 3) := by decide +kernel
theorem dX13_isStaying_102 : decode cX13_isStaying 102 = .ok (.iload_n 1, 1) := by decide +kernel
theorem dX13_isStaying_103 : decode cX13_isStaying 103 = .ok (.bipush 6, 2) := by decide +kernel
theorem dX13_isStaying_105 : decode cX13_isStaying 105 = .ok (.iadd, 1) := by decide +kernel
theorem dX13_isStaying_106 : decode cX13_isStaying 106 = .ok (.iload_n 2, 1) := by decide +kernel
theorem dX13_isStaying_107 : decode cX13_isStaying 107 = .ok (.iadd, 1) := by decide +kernel
theorem dX13_isStaying_108 : decode cX13_isStaying 108 = .ok (.iaload, 1) := by decide +kernel
theorem dX13_isStaying_109 : decode cX13_isStaying 109 = .ok (.iastore, 1) := by decide +kernel
theorem dX13_isStaying_110 : decode cX13_isStaying 110 = .ok (.aload_n 0, 1) := by decide +kernel
theorem dX13_isStaying_111 : decode cX13_isStaying 111 = .ok (.aload_n 0, 1) := by decide +kernel
theorem dX13_isStaying_112 : decode cX13_isStaying 112 = .ok (.getfield 9, 3) := by decide +kernel
theorem dX13_isStaying_115 : decode cX13_isStaying 115 = .ok (.invokevirtual 365, 3) := by decide +kernel
theorem dX13_isStaying_118 : decode cX13_isStaying 118 = .ok (.ifCond .le 7, 3) := by decide +kernel
theorem dX13_isStaying_121 : decode cX13_isStaying 121 = .ok (.iconst 1, 1) := by decide +kernel
theorem dX13_isStaying_122 : decode cX13_isStaying 122 = .ok (.goto 4, 3) := by decide +kernel
theorem dX13_isStaying_125 : decode cX13_isStaying 125 = .ok (.iconst 0, 1) := by decide +kernel
theorem dX13_isStaying_126 : decode cX13_isStaying 126 = .ok (.ireturn, 1) := by decide +kernel
theorem dX13_harvestOf_0 : decode cX13_harvestOf 0 = .ok (.aload_n 0, 1) := by decide +kernel
theorem dX13_harvestOf_1 : decode cX13_harvestOf 1 = .ok (.getfield 336, 3) := by decide +kernel
theorem dX13_harvestOf_4 : decode cX13_harvestOf 4 = .ok (.ifCond .ne 8, 3) := by decide +kernel
theorem dX13_harvestOf_7 : decode cX13_harvestOf 7 = .ok (.bipush 20, 2) := by decide +kernel
theorem dX13_harvestOf_9 : decode cX13_harvestOf 9 = .ok (.goto 14, 3) := by decide +kernel
theorem dX13_harvestOf_12 : decode cX13_harvestOf 12 = .ok (.aload_n 0, 1) := by decide +kernel
theorem dX13_harvestOf_13 : decode cX13_harvestOf 13 = .ok (.getfield 32, 3) := by decide +kernel
theorem dX13_harvestOf_16 : decode cX13_harvestOf 16 = .ok (.iload_n 1, 1) := by decide +kernel
theorem dX13_harvestOf_17 : decode cX13_harvestOf 17 = .ok (.aload_n 0, 1) := by decide +kernel
theorem dX13_harvestOf_18 : decode cX13_harvestOf 18 = .ok (.getfield 336, 3) := by decide +kernel
theorem dX13_harvestOf_21 : decode cX13_harvestOf 21 = .ok (.irem, 1) := by decide +kernel
theorem dX13_harvestOf_22 : decode cX13_harvestOf 22 = .ok (.iaload, 1) := by decide +kernel
theorem dX13_harvestOf_23 : decode cX13_harvestOf 23 = .ok (.ireturn, 1) := by decide +kernel
theorem dX13_wayOf_0 : decode cX13_wayOf 0 = .ok (.aload_n 0, 1) := by decide +kernel
theorem dX13_wayOf_1 : decode cX13_wayOf 1 = .ok (.getfield 29, 3) := by decide +kernel
theorem dX13_wayOf_4 : decode cX13_wayOf 4 = .ok (.iload_n 2, 1) := by decide +kernel
theorem dX13_wayOf_5 : decode cX13_wayOf 5 = .ok (.iaload, 1) := by decide +kernel
theorem dX13_wayOf_6 : decode cX13_wayOf 6 = .ok (.ifCond .ne 7, 3) := by decide +kernel
theorem dX13_wayOf_9 : decode cX13_wayOf 9 = .ok (.iconst (-1), 1) := by decide +kernel
theorem dX13_wayOf_10 : decode cX13_wayOf 10 = .ok (.goto 36, 3) := by decide +kernel
theorem dX13_wayOf_13 : decode cX13_wayOf 13 = .ok (.aload_n 0, 1) := by decide +kernel
theorem dX13_wayOf_14 : decode cX13_wayOf 14 = .ok (.getfield 108, 3) := by decide +kernel
theorem dX13_wayOf_17 : decode cX13_wayOf 17 = .ok (.iload_n 1, 1) := by decide +kernel
theorem dX13_wayOf_18 : decode cX13_wayOf 18 = .ok (.bipush 13, 2) := by decide +kernel
theorem dX13_wayOf_20 : decode cX13_wayOf 20 = .ok (.iadd, 1) := by decide +kernel
theorem dX13_wayOf_21 : decode cX13_wayOf 21 = .ok (.bipush 6, 2) := by decide +kernel
theorem dX13_wayOf_23 : decode cX13_wayOf 23 = .ok (.iload_n 2, 1) := by decide +kernel
theorem dX13_wayOf_24 : decode cX13_wayOf 24 = .ok (.imul, 1) := by decide +kernel
theorem dX13_wayOf_25 : decode cX13_wayOf 25 = .ok (.iadd, 1) := by decide +kernel
theorem dX13_wayOf_26 : decode cX13_wayOf 26 = .ok (.aload_n 0, 1) := by decide +kernel
theorem dX13_wayOf_27 : decode cX13_wayOf 27 = .ok (.getfield 108, 3) := by decide +kernel
theorem dX13_wayOf_30 : decode cX13_wayOf 30 = .ok (.iload_n 1, 1) := by decide +kernel
theorem dX13_wayOf_31 : decode cX13_wayOf 31 = .ok (.bipush 10, 2) := by decide +kernel
theorem dX13_wayOf_33 : decode cX13_wayOf 33 = .ok (.iadd, 1) := by decide +kernel
theorem dX13_wayOf_34 : decode cX13_wayOf 34 = .ok (.iload_n 2, 1) := by decide +kernel
theorem dX13_wayOf_35 : decode cX13_wayOf 35 = .ok (.iadd, 1) := by decide +kernel
theorem dX13_wayOf_36 : decode cX13_wayOf 36 = .ok (.iaload, 1) := by decide +kernel
theorem dX13_wayOf_37 : decode cX13_wayOf 37 = .ok (.aload_n 0, 1) := by decide +kernel
theorem dX13_wayOf_38 : decode cX13_wayOf 38 = .ok (.getfield 29, 3) := by decide +kernel
theorem dX13_wayOf_41 : decode cX13_wayOf 41 = .ok (.iload_n 2, 1) := by decide +kernel
theorem dX13_wayOf_42 : decode cX13_wayOf 42 = .ok (.iaload, 1) := by decide +kernel
theorem dX13_wayOf_43 : decode cX13_wayOf 43 = .ok (.irem, 1) := by decide +kernel
theorem dX13_wayOf_44 : decode cX13_wayOf 44 = .ok (.iadd, 1) := by decide +kernel
theorem dX13_wayOf_45 : decode cX13_wayOf 45 = .ok (.iaload, 1) := by decide +kernel
theorem dX13_wayOf_46 : decode cX13_wayOf 46 = .ok (.ireturn, 1) := by decide +kernel
theorem dX13_gathers_0 : decode cX13_gathers 0 = .ok (.aload_n 0, 1) := by decide +kernel
theorem dX13_gathers_1 : decode cX13_gathers 1 = .ok (.getfield 108, 3) := by decide +kernel
theorem dX13_gathers_4 : decode cX13_gathers 4 = .ok (.iload_n 1, 1) := by decide +kernel
theorem dX13_gathers_5 : decode cX13_gathers 5 = .ok (.iconst 0, 1) := by decide +kernel
theorem dX13_gathers_6 : decode cX13_gathers 6 = .ok (.iadd, 1) := by decide +kernel
theorem dX13_gathers_7 : decode cX13_gathers 7 = .ok (.aload_n 0, 1) := by decide +kernel
theorem dX13_gathers_8 : decode cX13_gathers 8 = .ok (.getfield 108, 3) := by decide +kernel
theorem dX13_gathers_11 : decode cX13_gathers 11 = .ok (.iload_n 1, 1) := by decide +kernel
theorem dX13_gathers_12 : decode cX13_gathers 12 = .ok (.iconst 0, 1) := by decide +kernel
theorem dX13_gathers_13 : decode cX13_gathers 13 = .ok (.iadd, 1) := by decide +kernel
theorem dX13_gathers_14 : decode cX13_gathers 14 = .ok (.iaload, 1) := by decide +kernel
theorem dX13_gathers_15 : decode cX13_gathers 15 = .ok (.iload_n 2, 1) := by decide +kernel
theorem dX13_gathers_16 : decode cX13_gathers 16 = .ok (.iadd, 1) := by decide +kernel
theorem dX13_gathers_17 : decode cX13_gathers 17 = .ok (.iconst 0, 1) := by decide +kernel
theorem dX13_gathers_18 : decode cX13_gathers 18 = .ok (.sipush 999, 3) := by decide +kernel
theorem dX13_gathers_21 : decode cX13_gathers 21 = .ok (.invokestatic 381, 3) := by decide +kernel
theorem dX13_gathers_24 : decode cX13_gathers 24 = .ok (.iastore, 1) := by decide +kernel
theorem dX13_gathers_25 : decode cX13_gathers 25 = .ok (.aload_n 0, 1) := by decide +kernel
theorem dX13_gathers_26 : decode cX13_gathers 26 = .ok (.getfield 108, 3) := by decide +kernel
theorem dX13_gathers_29 : decode cX13_gathers 29 = .ok (.iload_n 1, 1) := by decide +kernel
theorem dX13_gathers_30 : decode cX13_gathers 30 = .ok (.iconst 2, 1) := by decide +kernel
theorem dX13_gathers_31 : decode cX13_gathers 31 = .ok (.iadd, 1) := by decide +kernel
theorem dX13_gathers_32 : decode cX13_gathers 32 = .ok (.aload_n 0, 1) := by decide +kernel
theorem dX13_gathers_33 : decode cX13_gathers 33 = .ok (.getfield 108, 3) := by decide +kernel
theorem dX13_gathers_36 : decode cX13_gathers 36 = .ok (.iload_n 1, 1) := by decide +kernel
theorem dX13_gathers_37 : decode cX13_gathers 37 = .ok (.iconst 2, 1) := by decide +kernel
theorem dX13_gathers_38 : decode cX13_gathers 38 = .ok (.iadd, 1) := by decide +kernel
theorem dX13_gathers_39 : decode cX13_gathers 39 = .ok (.iaload, 1) := by decide +kernel
theorem dX13_gathers_40 : decode cX13_gathers 40 = .ok (.aload_n 0, 1) := by decide +kernel
theorem dX13_gathers_41 : decode cX13_gathers 41 = .ok (.getfield 108, 3) := by decide +kernel
theorem dX13_gathers_44 : decode cX13_gathers 44 = .ok (.iload_n 1, 1) := by decide +kernel
theorem dX13_gathers_45 : decode cX13_gathers 45 = .ok (.iconst 2, 1) := by decide +kernel
theorem dX13_gathers_46 : decode cX13_gathers 46 = .ok (.iadd, 1) := by decide +kernel
theorem dX13_gathers_47 : decode cX13_gathers 47 = .ok (.iaload, 1) := by decide +kernel
theorem dX13_gathers_48 : decode cX13_gathers 48 = .ok (.bipush 10, 2) := by decide +kernel
theorem dX13_gathers_50 : decode cX13_gathers 50 = .ok (.idiv, 1) := by decide +kernel
theorem dX13_gathers_51 : decode cX13_gathers 51 = .ok (.iadd, 1) := by decide +kernel
theorem dX13_gathers_52 : decode cX13_gathers 52 = .ok (.iconst 0, 1) := by decide +kernel
theorem dX13_gathers_53 : decode cX13_gathers 53 = .ok (.sipush 999, 3) := by decide +kernel
theorem dX13_gathers_56 : decode cX13_gathers 56 = .ok (.invokestatic 381, 3) := by decide +kernel
theorem dX13_gathers_59 : decode cX13_gathers 59 = .ok (.iastore, 1) := by decide +kernel
theorem dX13_gathers_60 : decode cX13_gathers 60 = .ok (.return_, 1) := by decide +kernel
theorem dX13_does_0 : decode cX13_does 0 = .ok (.iload_n 2, 1) := by decide +kernel
theorem dX13_does_1 : decode cX13_does 1 = .ok (.iconst (-1), 1) := by decide +kernel
theorem dX13_does_2 : decode cX13_does 2 = .ok (.if_icmp .ne 5, 3) := by decide +kernel
theorem dX13_does_5 : decode cX13_does 5 = .ok (.iconst 0, 1) := by decide +kernel
theorem dX13_does_6 : decode cX13_does 6 = .ok (.ireturn, 1) := by decide +kernel
theorem dX13_does_7 : decode cX13_does 7 = .ok (.aload_n 0, 1) := by decide +kernel
theorem dX13_does_8 : decode cX13_does 8 = .ok (.getfield 16, 3) := by decide +kernel
theorem dX13_does_11 : decode cX13_does 11 = .ok (.iload_n 2, 1) := by decide +kernel
theorem dX13_does_12 : decode cX13_does 12 = .ok (.iaload, 1) := by decide +kernel
theorem dX13_does_13 : decode cX13_does 13 = .ok (.aload_n 0, 1) := by decide +kernel
theorem dX13_does_14 : decode cX13_does 14 = .ok (.getfield 108, 3) := by decide +kernel
theorem dX13_does_17 : decode cX13_does 17 = .ok (.iload_n 1, 1) := by decide +kernel
theorem dX13_does_18 : decode cX13_does 18 = .ok (.iconst 0, 1) := by decide +kernel
theorem dX13_does_19 : decode cX13_does 19 = .ok (.iadd, 1) := by decide +kernel
theorem dX13_does_20 : decode cX13_does 20 = .ok (.iaload, 1) := by decide +kernel
theorem dX13_does_21 : decode cX13_does 21 = .ok (.if_icmp .le 18, 3) := by decide +kernel
theorem dX13_does_24 : decode cX13_does 24 = .ok (.aload_n 0, 1) := by decide +kernel
theorem dX13_does_25 : decode cX13_does 25 = .ok (.getfield 108, 3) := by decide +kernel
theorem dX13_does_28 : decode cX13_does 28 = .ok (.iload_n 1, 1) := by decide +kernel
theorem dX13_does_29 : decode cX13_does 29 = .ok (.bipush 8, 2) := by decide +kernel
theorem dX13_does_31 : decode cX13_does 31 = .ok (.iadd, 1) := by decide +kernel
theorem dX13_does_32 : decode cX13_does 32 = .ok (.dup2, 1) := by decide +kernel
theorem dX13_does_33 : decode cX13_does 33 = .ok (.iaload, 1) := by decide +kernel
theorem dX13_does_34 : decode cX13_does 34 = .ok (.iconst 1, 1) := by decide +kernel
theorem dX13_does_35 : decode cX13_does 35 = .ok (.iadd, 1) := by decide +kernel
theorem dX13_does_36 : decode cX13_does 36 = .ok (.iastore, 1) := by decide +kernel
theorem dX13_does_37 : decode cX13_does 37 = .ok (.iconst 0, 1) := by decide +kernel
theorem dX13_does_38 : decode cX13_does 38 = .ok (.ireturn, 1) := by decide +kernel
theorem dX13_does_39 : decode cX13_does 39 = .ok (.aload_n 0, 1) := by decide +kernel
theorem dX13_does_40 : decode cX13_does 40 = .ok (.getfield 108, 3) := by decide +kernel
theorem dX13_does_43 : decode cX13_does 43 = .ok (.iload_n 1, 1) := by decide +kernel
theorem dX13_does_44 : decode cX13_does 44 = .ok (.iconst 0, 1) := by decide +kernel
theorem dX13_does_45 : decode cX13_does 45 = .ok (.iadd, 1) := by decide +kernel
theorem dX13_does_46 : decode cX13_does 46 = .ok (.dup2, 1) := by decide +kernel
theorem dX13_does_47 : decode cX13_does 47 = .ok (.iaload, 1) := by decide +kernel
theorem dX13_does_48 : decode cX13_does 48 = .ok (.aload_n 0, 1) := by decide +kernel
theorem dX13_does_49 : decode cX13_does 49 = .ok (.getfield 16, 3) := by decide +kernel
theorem dX13_does_52 : decode cX13_does 52 = .ok (.iload_n 2, 1) := by decide +kernel
theorem dX13_does_53 : decode cX13_does 53 = .ok (.iaload, 1) := by decide +kernel
theorem dX13_does_54 : decode cX13_does 54 = .ok (.isub, 1) := by decide +kernel
theorem dX13_does_55 : decode cX13_does 55 = .ok (.iastore, 1) := by decide +kernel
theorem dX13_does_56 : decode cX13_does 56 = .ok (.aload_n 0, 1) := by decide +kernel
theorem dX13_does_57 : decode cX13_does 57 = .ok (.getfield 108, 3) := by decide +kernel
theorem dX13_does_60 : decode cX13_does 60 = .ok (.iload_n 1, 1) := by decide +kernel
theorem dX13_does_61 : decode cX13_does 61 = .ok (.iconst 1, 1) := by decide +kernel
theorem dX13_does_62 : decode cX13_does 62 = .ok (.iadd, 1) := by decide +kernel
theorem dX13_does_63 : decode cX13_does 63 = .ok (.aload_n 0, 1) := by decide +kernel
theorem dX13_does_64 : decode cX13_does 64 = .ok (.getfield 108, 3) := by decide +kernel
theorem dX13_does_67 : decode cX13_does 67 = .ok (.iload_n 1, 1) := by decide +kernel
theorem dX13_does_68 : decode cX13_does 68 = .ok (.iconst 1, 1) := by decide +kernel
theorem dX13_does_69 : decode cX13_does 69 = .ok (.iadd, 1) := by decide +kernel
theorem dX13_does_70 : decode cX13_does 70 = .ok (.iaload, 1) := by decide +kernel
theorem dX13_does_71 : decode cX13_does 71 = .ok (.aload_n 0, 1) := by decide +kernel
theorem dX13_does_72 : decode cX13_does 72 = .ok (.getfield 20, 3) := by decide +kernel
theorem dX13_does_75 : decode cX13_does 75 = .ok (.iload_n 2, 1) := by decide +kernel
theorem dX13_does_76 : decode cX13_does 76 = .ok (.iaload, 1) := by decide +kernel
theorem dX13_does_77 : decode cX13_does 77 = .ok (.iadd, 1) := by decide +kernel
theorem dX13_does_78 : decode cX13_does 78 = .ok (.iconst 0, 1) := by decide +kernel
theorem dX13_does_79 : decode cX13_does 79 = .ok (.bipush 99, 2) := by decide +kernel
theorem dX13_does_81 : decode cX13_does 81 = .ok (.invokestatic 381, 3) := by decide +kernel
theorem dX13_does_84 : decode cX13_does 84 = .ok (.iastore, 1) := by decide +kernel
theorem dX13_does_85 : decode cX13_does 85 = .ok (.aload_n 0, 1) := by decide +kernel
theorem dX13_does_86 : decode cX13_does 86 = .ok (.getfield 108, 3) := by decide +kernel
theorem dX13_does_89 : decode cX13_does 89 = .ok (.iload_n 1, 1) := by decide +kernel
theorem dX13_does_90 : decode cX13_does 90 = .ok (.iconst 2, 1) := by decide +kernel
theorem dX13_does_91 : decode cX13_does 91 = .ok (.iadd, 1) := by decide +kernel
theorem dX13_does_92 : decode cX13_does 92 = .ok (.aload_n 0, 1) := by decide +kernel
theorem dX13_does_93 : decode cX13_does 93 = .ok (.getfield 108, 3) := by decide +kernel
theorem dX13_does_96 : decode cX13_does 96 = .ok (.iload_n 1, 1) := by decide +kernel
theorem dX13_does_97 : decode cX13_does 97 = .ok (.iconst 2, 1) := by decide +kernel
theorem dX13_does_98 : decode cX13_does 98 = .ok (.iadd, 1) := by decide +kernel
theorem dX13_does_99 : decode cX13_does 99 = .ok (.iaload, 1) := by decide +kernel
theorem dX13_does_100 : decode cX13_does 100 = .ok (.aload_n 0, 1) := by decide +kernel
theorem dX13_does_101 : decode cX13_does 101 = .ok (.getfield 23, 3) := by decide +kernel
theorem dX13_does_104 : decode cX13_does 104 = .ok (.iload_n 2, 1) := by decide +kernel
theorem dX13_does_105 : decode cX13_does 105 = .ok (.iaload, 1) := by decide +kernel
theorem dX13_does_106 : decode cX13_does 106 = .ok (.iadd, 1) := by decide +kernel
theorem dX13_does_107 : decode cX13_does 107 = .ok (.iconst 0, 1) := by decide +kernel
theorem dX13_does_108 : decode cX13_does 108 = .ok (.sipush 999, 3) := by decide +kernel
theorem dX13_does_111 : decode cX13_does 111 = .ok (.invokestatic 381, 3) := by decide +kernel
theorem dX13_does_114 : decode cX13_does 114 = .ok (.iastore, 1) := by decide +kernel
theorem dX13_does_115 : decode cX13_does 115 = .ok (.aload_n 0, 1) := by decide +kernel
theorem dX13_does_116 : decode cX13_does 116 = .ok (.getfield 108, 3) := by decide +kernel
theorem dX13_does_119 : decode cX13_does 119 = .ok (.iload_n 1, 1) := by decide +kernel
theorem dX13_does_120 : decode cX13_does 120 = .ok (.bipush 6, 2) := by decide +kernel
theorem dX13_does_122 : decode cX13_does 122 = .ok (.iadd, 1) := by decide +kernel
theorem dX13_does_123 : decode cX13_does 123 = .ok (.aload_n 0, 1) := by decide +kernel
theorem dX13_does_124 : decode cX13_does 124 = .ok (.getfield 108, 3) := by decide +kernel
theorem dX13_does_127 : decode cX13_does 127 = .ok (.iload_n 1, 1) := by decide +kernel
theorem dX13_does_128 : decode cX13_does 128 = .ok (.iconst 4, 1) := by decide +kernel
theorem dX13_does_129 : decode cX13_does 129 = .ok (.iadd, 1) := by decide +kernel
theorem dX13_does_130 : decode cX13_does 130 = .ok (.iaload, 1) := by decide +kernel
theorem dX13_does_131 : decode cX13_does 131 = .ok (.iadd, 1) := by decide +kernel
theorem dX13_does_132 : decode cX13_does 132 = .ok (.dup2, 1) := by decide +kernel
theorem dX13_does_133 : decode cX13_does 133 = .ok (.iaload, 1) := by decide +kernel
theorem dX13_does_134 : decode cX13_does 134 = .ok (.aload_n 0, 1) := by decide +kernel
theorem dX13_does_135 : decode cX13_does 135 = .ok (.getfield 26, 3) := by decide +kernel
theorem dX13_does_138 : decode cX13_does 138 = .ok (.iload_n 2, 1) := by decide +kernel
theorem dX13_does_139 : decode cX13_does 139 = .ok (.iaload, 1) := by decide +kernel
theorem dX13_does_140 : decode cX13_does 140 = .ok (.iadd, 1) := by decide +kernel
theorem dX13_does_141 : decode cX13_does 141 = .ok (.iastore, 1) := by decide +kernel
theorem dX13_does_142 : decode cX13_does 142 = .ok (.iconst 1, 1) := by decide +kernel
theorem dX13_does_143 : decode cX13_does 143 = .ok (.ireturn, 1) := by decide +kernel
theorem dX13_ends_0 : decode cX13_ends 0 = .ok (.aload_n 0, 1) := by decide +kernel
theorem dX13_ends_1 : decode cX13_ends 1 = .ok (.getfield 108, 3) := by decide +kernel
theorem dX13_ends_4 : decode cX13_ends 4 = .ok (.iload_n 1, 1) := by decide +kernel
theorem dX13_ends_5 : decode cX13_ends 5 = .ok (.iconst 3, 1) := by decide +kernel
theorem dX13_ends_6 : decode cX13_ends 6 = .ok (.iadd, 1) := by decide +kernel
theorem dX13_ends_7 : decode cX13_ends 7 = .ok (.dup2, 1) := by decide +kernel
theorem dX13_ends_8 : decode cX13_ends 8 = .ok (.iaload, 1) := by decide +kernel
theorem dX13_ends_9 : decode cX13_ends 9 = .ok (.iconst 1, 1) := by decide +kernel
theorem dX13_ends_10 : decode cX13_ends 10 = .ok (.iadd, 1) := by decide +kernel
theorem dX13_ends_11 : decode cX13_ends 11 = .ok (.iastore, 1) := by decide +kernel
theorem dX13_ends_12 : decode cX13_ends 12 = .ok (.aload_n 0, 1) := by decide +kernel
theorem dX13_ends_13 : decode cX13_ends 13 = .ok (.getfield 108, 3) := by decide +kernel
theorem dX13_ends_16 : decode cX13_ends 16 = .ok (.iload_n 1, 1) := by decide +kernel
theorem dX13_ends_17 : decode cX13_ends 17 = .ok (.bipush 10, 2) := by decide +kernel
theorem dX13_ends_19 : decode cX13_ends 19 = .ok (.iadd, 1) := by decide +kernel
theorem dX13_ends_20 : decode cX13_ends 20 = .ok (.aload_n 0, 1) := by decide +kernel
theorem dX13_ends_21 : decode cX13_ends 21 = .ok (.getfield 108, 3) := by decide +kernel
theorem dX13_ends_24 : decode cX13_ends 24 = .ok (.iload_n 1, 1) := by decide +kernel
theorem dX13_ends_25 : decode cX13_ends 25 = .ok (.iconst 4, 1) := by decide +kernel
theorem dX13_ends_26 : decode cX13_ends 26 = .ok (.iadd, 1) := by decide +kernel
theorem dX13_ends_27 : decode cX13_ends 27 = .ok (.iaload, 1) := by decide +kernel
theorem dX13_ends_28 : decode cX13_ends 28 = .ok (.iadd, 1) := by decide +kernel
theorem dX13_ends_29 : decode cX13_ends 29 = .ok (.dup2, 1) := by decide +kernel
theorem dX13_ends_30 : decode cX13_ends 30 = .ok (.iaload, 1) := by decide +kernel
theorem dX13_ends_31 : decode cX13_ends 31 = .ok (.iconst 1, 1) := by decide +kernel
theorem dX13_ends_32 : decode cX13_ends 32 = .ok (.iadd, 1) := by decide +kernel
theorem dX13_ends_33 : decode cX13_ends 33 = .ok (.iastore, 1) := by decide +kernel
theorem dX13_ends_34 : decode cX13_ends 34 = .ok (.aload_n 0, 1) := by decide +kernel
theorem dX13_ends_35 : decode cX13_ends 35 = .ok (.getfield 108, 3) := by decide +kernel
theorem dX13_ends_38 : decode cX13_ends 38 = .ok (.iload_n 1, 1) := by decide +kernel
theorem dX13_ends_39 : decode cX13_ends 39 = .ok (.iconst 5, 1) := by decide +kernel
theorem dX13_ends_40 : decode cX13_ends 40 = .ok (.iadd, 1) := by decide +kernel
theorem dX13_ends_41 : decode cX13_ends 41 = .ok (.dup2, 1) := by decide +kernel
theorem dX13_ends_42 : decode cX13_ends 42 = .ok (.iaload, 1) := by decide +kernel
theorem dX13_ends_43 : decode cX13_ends 43 = .ok (.iconst 1, 1) := by decide +kernel
theorem dX13_ends_44 : decode cX13_ends 44 = .ok (.iadd, 1) := by decide +kernel
theorem dX13_ends_45 : decode cX13_ends 45 = .ok (.iastore, 1) := by decide +kernel
theorem dX13_ends_46 : decode cX13_ends 46 = .ok (.iload_n 2, 1) := by decide +kernel
theorem dX13_ends_47 : decode cX13_ends 47 = .ok (.ifCond .eq 23, 3) := by decide +kernel
theorem dX13_ends_50 : decode cX13_ends 50 = .ok (.aload_n 0, 1) := by decide +kernel
theorem dX13_ends_51 : decode cX13_ends 51 = .ok (.getfield 108, 3) := by decide +kernel
theorem dX13_ends_54 : decode cX13_ends 54 = .ok (.iload_n 1, 1) := by decide +kernel
theorem dX13_ends_55 : decode cX13_ends 55 = .ok (.iconst 5, 1) := by decide +kernel
theorem dX13_ends_56 : decode cX13_ends 56 = .ok (.iadd, 1) := by decide +kernel
theorem dX13_ends_57 : decode cX13_ends 57 = .ok (.iaload, 1) := by decide +kernel
theorem dX13_ends_58 : decode cX13_ends 58 = .ok (.aload_n 0, 1) := by decide +kernel
theorem dX13_ends_59 : decode cX13_ends 59 = .ok (.getfield 108, 3) := by decide +kernel
theorem dX13_ends_62 : decode cX13_ends 62 = .ok (.iload_n 1, 1) := by decide +kernel
theorem dX13_ends_63 : decode cX13_ends 63 = .ok (.bipush 12, 2) := by decide +kernel
theorem dX13_ends_65 : decode cX13_ends 65 = .ok (.iadd, 1) := by decide +kernel
theorem dX13_ends_66 : decode cX13_ends 66 = .ok (.iaload, 1) := by decide +kernel
theorem dX13_ends_67 : decode cX13_ends 67 = .ok (.if_icmp .ge 4, 3) := by decide +kernel
theorem dX13_ends_70 : decode cX13_ends 70 = .ok (.return_, 1) := by decide +kernel
theorem dX13_ends_71 : decode cX13_ends 71 = .ok (.aload_n 0, 1) := by decide +kernel
theorem dX13_ends_72 : decode cX13_ends 72 = .ok (.iload_n 1, 1) := by decide +kernel
theorem dX13_ends_73 : decode cX13_ends 73 = .ok (.invokevirtual 384, 3) := by decide +kernel
theorem dX13_ends_76 : decode cX13_ends 76 = .ok (.ifCond .eq 17, 3) := by decide +kernel
theorem dX13_ends_79 : decode cX13_ends 79 = .ok (.aload_n 0, 1) := by decide +kernel
theorem dX13_ends_80 : decode cX13_ends 80 = .ok (.getfield 108, 3) := by decide +kernel
theorem dX13_ends_83 : decode cX13_ends 83 = .ok (.iload_n 1, 1) := by decide +kernel
theorem dX13_ends_84 : decode cX13_ends 84 = .ok (.bipush 9, 2) := by decide +kernel
theorem dX13_ends_86 : decode cX13_ends 86 = .ok (.iadd, 1) := by decide +kernel
theorem dX13_ends_87 : decode cX13_ends 87 = .ok (.dup2, 1) := by decide +kernel
theorem dX13_ends_88 : decode cX13_ends 88 = .ok (.iaload, 1) := by decide +kernel
theorem dX13_ends_89 : decode cX13_ends 89 = .ok (.iconst 1, 1) := by decide +kernel
theorem dX13_ends_90 : decode cX13_ends 90 = .ok (.iadd, 1) := by decide +kernel
theorem dX13_ends_91 : decode cX13_ends 91 = .ok (.iastore, 1) := by decide +kernel
theorem dX13_ends_92 : decode cX13_ends 92 = .ok (.return_, 1) := by decide +kernel
theorem dX13_ends_93 : decode cX13_ends 93 = .ok (.aload_n 0, 1) := by decide +kernel
theorem dX13_ends_94 : decode cX13_ends 94 = .ok (.getfield 108, 3) := by decide +kernel
theorem dX13_ends_97 : decode cX13_ends 97 = .ok (.iload_n 1, 1) := by decide +kernel
theorem dX13_ends_98 : decode cX13_ends 98 = .ok (.iconst 4, 1) := by decide +kernel
theorem dX13_ends_99 : decode cX13_ends 99 = .ok (.iadd, 1) := by decide +kernel
theorem dX13_ends_100 : decode cX13_ends 100 = .ok (.iconst 1, 1) := by decide +kernel
theorem dX13_ends_101 : decode cX13_ends 101 = .ok (.aload_n 0, 1) := by decide +kernel
theorem dX13_ends_102 : decode cX13_ends 102 = .ok (.getfield 108, 3) := by decide +kernel
theorem dX13_ends_105 : decode cX13_ends 105 = .ok (.iload_n 1, 1) := by decide +kernel
theorem dX13_ends_106 : decode cX13_ends 106 = .ok (.iconst 4, 1) := by decide +kernel
theorem dX13_ends_107 : decode cX13_ends 107 = .ok (.iadd, 1) := by decide +kernel
theorem dX13_ends_108 : decode cX13_ends 108 = .ok (.iaload, 1) := by decide +kernel
theorem dX13_ends_109 : decode cX13_ends 109 = .ok (.isub, 1) := by decide +kernel
theorem dX13_ends_110 : decode cX13_ends 110 = .ok (.iastore, 1) := by decide +kernel
theorem dX13_ends_111 : decode cX13_ends 111 = .ok (.aload_n 0, 1) := by decide +kernel
theorem dX13_ends_112 : decode cX13_ends 112 = .ok (.getfield 108, 3) := by decide +kernel
theorem dX13_ends_115 : decode cX13_ends 115 = .ok (.iload_n 1, 1) := by decide +kernel
theorem dX13_ends_116 : decode cX13_ends 116 = .ok (.iconst 5, 1) := by decide +kernel
theorem dX13_ends_117 : decode cX13_ends 117 = .ok (.iadd, 1) := by decide +kernel
theorem dX13_ends_118 : decode cX13_ends 118 = .ok (.iconst 0, 1) := by decide +kernel
theorem dX13_ends_119 : decode cX13_ends 119 = .ok (.iastore, 1) := by decide +kernel
theorem dX13_ends_120 : decode cX13_ends 120 = .ok (.return_, 1) := by decide +kernel
theorem dX13_goesBy_0 : decode cX13_goesBy 0 = .ok (.aload_n 0, 1) := by decide +kernel
theorem dX13_goesBy_1 : decode cX13_goesBy 1 = .ok (.iload_n 1, 1) := by decide +kernel
theorem dX13_goesBy_2 : decode cX13_goesBy 2 = .ok (.aload_n 0, 1) := by decide +kernel
theorem dX13_goesBy_3 : decode cX13_goesBy 3 = .ok (.aload_n 0, 1) := by decide +kernel
theorem dX13_goesBy_4 : decode cX13_goesBy 4 = .ok (.getfield 108, 3) := by decide +kernel
theorem dX13_goesBy_7 : decode cX13_goesBy 7 = .ok (.iload_n 1, 1) := by decide +kernel
theorem dX13_goesBy_8 : decode cX13_goesBy 8 = .ok (.iconst 3, 1) := by decide +kernel
theorem dX13_goesBy_9 : decode cX13_goesBy 9 = .ok (.iadd, 1) := by decide +kernel
theorem dX13_goesBy_10 : decode cX13_goesBy 10 = .ok (.iaload, 1) := by decide +kernel
theorem dX13_goesBy_11 : decode cX13_goesBy 11 = .ok (.invokevirtual 387, 3) := by decide +kernel
theorem dX13_goesBy_14 : decode cX13_goesBy 14 = .ok (.invokevirtual 390, 3) := by decide +kernel
theorem dX13_goesBy_17 : decode cX13_goesBy 17 = .ok (.aload_n 0, 1) := by decide +kernel
theorem dX13_goesBy_18 : decode cX13_goesBy 18 = .ok (.iload_n 1, 1) := by decide +kernel
theorem dX13_goesBy_19 : decode cX13_goesBy 19 = .ok (.iload_n 2, 1) := by decide +kernel
theorem dX13_goesBy_20 : decode cX13_goesBy 20 = .ok (.bipush (-2), 2) := by decide +kernel
theorem dX13_goesBy_22 : decode cX13_goesBy 22 = .ok (.if_icmp .ne 19, 3) := by decide +kernel
theorem dX13_goesBy_25 : decode cX13_goesBy 25 = .ok (.aload_n 0, 1) := by decide +kernel
theorem dX13_goesBy_26 : decode cX13_goesBy 26 = .ok (.iload_n 1, 1) := by decide +kernel
theorem dX13_goesBy_27 : decode cX13_goesBy 27 = .ok (.aload_n 0, 1) := by decide +kernel
theorem dX13_goesBy_28 : decode cX13_goesBy 28 = .ok (.getfield 108, 3) := by decide +kernel
theorem dX13_goesBy_31 : decode cX13_goesBy 31 = .ok (.iload_n 1, 1) := by decide +kernel
theorem dX13_goesBy_32 : decode cX13_goesBy 32 = .ok (.iconst 4, 1) := by decide +kernel
theorem dX13_goesBy_33 : decode cX13_goesBy 33 = .ok (.iadd, 1) := by decide +kernel
theorem dX13_goesBy_34 : decode cX13_goesBy 34 = .ok (.iaload, 1) := by decide +kernel
theorem dX13_goesBy_35 : decode cX13_goesBy 35 = .ok (.invokevirtual 393, 3) := by decide +kernel
theorem dX13_goesBy_38 : decode cX13_goesBy 38 = .ok (.goto 4, 3) := by decide +kernel
theorem dX13_goesBy_41 : decode cX13_goesBy 41 = .ok (.iload_n 2, 1) := by decide +kernel
theorem dX13_goesBy_42 : decode cX13_goesBy 42 = .ok (.invokevirtual 396, 3) := by decide +kernel
theorem dX13_goesBy_45 : decode cX13_goesBy 45 = .ok (.pop, 1) := by decide +kernel
theorem dX13_goesBy_46 : decode cX13_goesBy 46 = .ok (.aload_n 0, 1) := by decide +kernel
theorem dX13_goesBy_47 : decode cX13_goesBy 47 = .ok (.iload_n 1, 1) := by decide +kernel
theorem dX13_goesBy_48 : decode cX13_goesBy 48 = .ok (.iconst 1, 1) := by decide +kernel
theorem dX13_goesBy_49 : decode cX13_goesBy 49 = .ok (.invokevirtual 400, 3) := by decide +kernel
theorem dX13_goesBy_52 : decode cX13_goesBy 52 = .ok (.return_, 1) := by decide +kernel
theorem dX13_goesYears_0 : decode cX13_goesYears 0 = .ok (.iconst 0, 1) := by decide +kernel
theorem dX13_goesYears_1 : decode cX13_goesYears 1 = .ok (.istore_n 3, 1) := by decide +kernel
theorem dX13_goesYears_2 : decode cX13_goesYears 2 = .ok (.iload_n 3, 1) := by decide +kernel
theorem dX13_goesYears_3 : decode cX13_goesYears 3 = .ok (.iload_n 2, 1) := by decide +kernel
theorem dX13_goesYears_4 : decode cX13_goesYears 4 = .ok (.if_icmp .ge 16, 3) := by decide +kernel
theorem dX13_goesYears_7 : decode cX13_goesYears 7 = .ok (.aload_n 0, 1) := by decide +kernel
theorem dX13_goesYears_8 : decode cX13_goesYears 8 = .ok (.iload_n 1, 1) := by decide +kernel
theorem dX13_goesYears_9 : decode cX13_goesYears 9 = .ok (.bipush (-2), 2) := by decide +kernel
theorem dX13_goesYears_11 : decode cX13_goesYears 11 = .ok (.invokevirtual 404, 3) := by decide +kernel
theorem dX13_goesYears_14 : decode cX13_goesYears 14 = .ok (.iinc 3 1, 3) := by decide +kernel
theorem dX13_goesYears_17 : decode cX13_goesYears 17 = .ok (.goto (-15), 3) := by decide +kernel
theorem dX13_goesYears_20 : decode cX13_goesYears 20 = .ok (.return_, 1) := by decide +kernel
theorem dX13_count_0 : decode cX13_count 0 = .ok (.aload_n 0, 1) := by decide +kernel
theorem dX13_count_1 : decode cX13_count 1 = .ok (.iconst 0, 1) := by decide +kernel
theorem dX13_count_2 : decode cX13_count 2 = .ok (.putfield 141, 3) := by decide +kernel
theorem dX13_count_5 : decode cX13_count 5 = .ok (.aload_n 0, 1) := by decide +kernel
theorem dX13_count_6 : decode cX13_count 6 = .ok (.iload_n 1, 1) := by decide +kernel
theorem dX13_count_7 : decode cX13_count 7 = .ok (.iconst 0, 1) := by decide +kernel
theorem dX13_count_8 : decode cX13_count 8 = .ok (.bipush 18, 2) := by decide +kernel
theorem dX13_count_10 : decode cX13_count 10 = .ok (.invokestatic 407, 3) := by decide +kernel
theorem dX13_count_13 : decode cX13_count 13 = .ok (.iconst 1, 1) := by decide +kernel
theorem dX13_count_14 : decode cX13_count 14 = .ok (.invokevirtual 326, 3) := by decide +kernel
theorem dX13_count_17 : decode cX13_count 17 = .ok (.ifCond .ne 5, 3) := by decide +kernel
theorem dX13_count_20 : decode cX13_count 20 = .ok (.iconst 0, 1) := by decide +kernel
theorem dX13_count_21 : decode cX13_count 21 = .ok (.ireturn, 1) := by decide +kernel
theorem dX13_count_22 : decode cX13_count 22 = .ok (.iload_n 1, 1) := by decide +kernel
theorem dX13_count_23 : decode cX13_count 23 = .ok (.tableswitch 145 0 15 #[77, 77, 77, 77, 77, 77, 86, 94, 102, 110, 115, 120, 125, 130, 135, 140], 77) := by decide +kernel
theorem dX13_count_100 : decode cX13_count 100 = .ok (.aload_n 0, 1) := by decide +kernel
theorem dX13_count_101 : decode cX13_count 101 = .ok (.getfield 108, 3) := by decide +kernel
theorem dX13_count_104 : decode cX13_count 104 = .ok (.iconst 0, 1) := by decide +kernel
theorem dX13_count_105 : decode cX13_count 105 = .ok (.iload_n 1, 1) := by decide +kernel
theorem dX13_count_106 : decode cX13_count 106 = .ok (.iadd, 1) := by decide +kernel
theorem dX13_count_107 : decode cX13_count 107 = .ok (.iaload, 1) := by decide +kernel
theorem dX13_count_108 : decode cX13_count 108 = .ok (.ireturn, 1) := by decide +kernel
theorem dX13_count_109 : decode cX13_count 109 = .ok (.aload_n 0, 1) := by decide +kernel
theorem dX13_count_110 : decode cX13_count 110 = .ok (.getfield 108, 3) := by decide +kernel
theorem dX13_count_113 : decode cX13_count 113 = .ok (.bipush 12, 2) := by decide +kernel
theorem dX13_count_115 : decode cX13_count 115 = .ok (.iaload, 1) := by decide +kernel
theorem dX13_count_116 : decode cX13_count 116 = .ok (.ireturn, 1) := by decide +kernel
theorem dX13_count_117 : decode cX13_count 117 = .ok (.aload_n 0, 1) := by decide +kernel
theorem dX13_count_118 : decode cX13_count 118 = .ok (.getfield 108, 3) := by decide +kernel
theorem dX13_count_121 : decode cX13_count 121 = .ok (.bipush 8, 2) := by decide +kernel
theorem dX13_count_123 : decode cX13_count 123 = .ok (.iaload, 1) := by decide +kernel
theorem dX13_count_124 : decode cX13_count 124 = .ok (.ireturn, 1) := by decide +kernel
theorem dX13_count_125 : decode cX13_count 125 = .ok (.aload_n 0, 1) := by decide +kernel
theorem dX13_count_126 : decode cX13_count 126 = .ok (.getfield 108, 3) := by decide +kernel
theorem dX13_count_129 : decode cX13_count 129 = .ok (.bipush 9, 2) := by decide +kernel
theorem dX13_count_131 : decode cX13_count 131 = .ok (.iaload, 1) := by decide +kernel
theorem dX13_count_132 : decode cX13_count 132 = .ok (.ireturn, 1) := by decide +kernel
theorem dX13_count_133 : decode cX13_count 133 = .ok (.aload_n 0, 1) := by decide +kernel
theorem dX13_count_134 : decode cX13_count 134 = .ok (.getfield 333, 3) := by decide +kernel
theorem dX13_count_137 : decode cX13_count 137 = .ok (.ireturn, 1) := by decide +kernel
theorem dX13_count_138 : decode cX13_count 138 = .ok (.aload_n 0, 1) := by decide +kernel
theorem dX13_count_139 : decode cX13_count 139 = .ok (.getfield 339, 3) := by decide +kernel
theorem dX13_count_142 : decode cX13_count 142 = .ok (.ireturn, 1) := by decide +kernel
theorem dX13_count_143 : decode cX13_count 143 = .ok (.aload_n 0, 1) := by decide +kernel
theorem dX13_count_144 : decode cX13_count 144 = .ok (.getfield 342, 3) := by decide +kernel
theorem dX13_count_147 : decode cX13_count 147 = .ok (.ireturn, 1) := by decide +kernel
theorem dX13_count_148 : decode cX13_count 148 = .ok (.aload_n 0, 1) := by decide +kernel
theorem dX13_count_149 : decode cX13_count 149 = .ok (.getfield 345, 3) := by decide +kernel
theorem dX13_count_152 : decode cX13_count 152 = .ok (.ireturn, 1) := by decide +kernel
theorem dX13_count_153 : decode cX13_count 153 = .ok (.aload_n 0, 1) := by decide +kernel
theorem dX13_count_154 : decode cX13_count 154 = .ok (.getfield 352, 3) := by decide +kernel
theorem dX13_count_157 : decode cX13_count 157 = .ok (.ireturn, 1) := by decide +kernel
theorem dX13_count_158 : decode cX13_count 158 = .ok (.aload_n 0, 1) := by decide +kernel
theorem dX13_count_159 : decode cX13_count 159 = .ok (.getfield 355, 3) := by decide +kernel
theorem dX13_count_162 : decode cX13_count 162 = .ok (.ireturn, 1) := by decide +kernel
theorem dX13_count_163 : decode cX13_count 163 = .ok (.aload_n 0, 1) := by decide +kernel
theorem dX13_count_164 : decode cX13_count 164 = .ok (.getfield 144, 3) := by decide +kernel
theorem dX13_count_167 : decode cX13_count 167 = .ok (.ireturn, 1) := by decide +kernel
theorem dX13_count_168 : decode cX13_count 168 = .ok (.aload_n 0, 1) := by decide +kernel
theorem dX13_count_169 : decode cX13_count 169 = .ok (.getfield 59, 3) := by decide +kernel
theorem dX13_count_172 : decode cX13_count 172 = .ok (.iload_n 1, 1) := by decide +kernel
theorem dX13_count_173 : decode cX13_count 173 = .ok (.bipush 16, 2) := by decide +kernel
theorem dX13_count_175 : decode cX13_count 175 = .ok (.isub, 1) := by decide +kernel
theorem dX13_count_176 : decode cX13_count 176 = .ok (.iaload, 1) := by decide +kernel
theorem dX13_count_177 : decode cX13_count 177 = .ok (.ireturn, 1) := by decide +kernel
theorem dX13_isDeed_0 : decode cX13_isDeed 0 = .ok (.aload_n 0, 1) := by decide +kernel
theorem dX13_isDeed_1 : decode cX13_isDeed 1 = .ok (.iload_n 1, 1) := by decide +kernel
theorem dX13_isDeed_2 : decode cX13_isDeed 2 = .ok (.ifCond .lt 15, 3) := by decide +kernel
theorem dX13_isDeed_5 : decode cX13_isDeed 5 = .ok (.iload_n 1, 1) := by decide +kernel
theorem dX13_isDeed_6 : decode cX13_isDeed 6 = .ok (.aload_n 0, 1) := by decide +kernel
theorem dX13_isDeed_7 : decode cX13_isDeed 7 = .ok (.getfield 333, 3) := by decide +kernel
theorem dX13_isDeed_10 : decode cX13_isDeed 10 = .ok (.if_icmp .ge 7, 3) := by decide +kernel
theorem dX13_isDeed_13 : decode cX13_isDeed 13 = .ok (.iconst 1, 1) := by decide +kernel
theorem dX13_isDeed_14 : decode cX13_isDeed 14 = .ok (.goto 4, 3) := by decide +kernel
theorem dX13_isDeed_17 : decode cX13_isDeed 17 = .ok (.iconst 0, 1) := by decide +kernel
theorem dX13_isDeed_18 : decode cX13_isDeed 18 = .ok (.iconst 1, 1) := by decide +kernel
theorem dX13_isDeed_19 : decode cX13_isDeed 19 = .ok (.invokevirtual 326, 3) := by decide +kernel
theorem dX13_isDeed_22 : decode cX13_isDeed 22 = .ok (.ireturn, 1) := by decide +kernel
theorem dX13_isBrother_0 : decode cX13_isBrother 0 = .ok (.aload_n 0, 1) := by decide +kernel
theorem dX13_isBrother_1 : decode cX13_isBrother 1 = .ok (.iload_n 1, 1) := by decide +kernel
theorem dX13_isBrother_2 : decode cX13_isBrother 2 = .ok (.iconst 0, 1) := by decide +kernel
theorem dX13_isBrother_3 : decode cX13_isBrother 3 = .ok (.iconst 1, 1) := by decide +kernel
theorem dX13_isBrother_4 : decode cX13_isBrother 4 = .ok (.invokestatic 407, 3) := by decide +kernel
theorem dX13_isBrother_7 : decode cX13_isBrother 7 = .ok (.iconst 1, 1) := by decide +kernel
theorem dX13_isBrother_8 : decode cX13_isBrother 8 = .ok (.invokevirtual 326, 3) := by decide +kernel
theorem dX13_isBrother_11 : decode cX13_isBrother 11 = .ok (.ireturn, 1) := by decide +kernel
theorem dX13_isFriend_0 : decode cX13_isFriend 0 = .ok (.aload_n 0, 1) := by decide +kernel
theorem dX13_isFriend_1 : decode cX13_isFriend 1 = .ok (.iload_n 1, 1) := by decide +kernel
theorem dX13_isFriend_2 : decode cX13_isFriend 2 = .ok (.ifCond .lt 15, 3) := by decide +kernel
theorem dX13_isFriend_5 : decode cX13_isFriend 5 = .ok (.iload_n 1, 1) := by decide +kernel
theorem dX13_isFriend_6 : decode cX13_isFriend 6 = .ok (.aload_n 0, 1) := by decide +kernel
theorem dX13_isFriend_7 : decode cX13_isFriend 7 = .ok (.getfield 339, 3) := by decide +kernel
theorem dX13_isFriend_10 : decode cX13_isFriend 10 = .ok (.if_icmp .ge 7, 3) := by decide +kernel
theorem dX13_isFriend_13 : decode cX13_isFriend 13 = .ok (.iconst 1, 1) := by decide +kernel
theorem dX13_isFriend_14 : decode cX13_isFriend 14 = .ok (.goto 4, 3) := by decide +kernel
theorem dX13_isFriend_17 : decode cX13_isFriend 17 = .ok (.iconst 0, 1) := by decide +kernel
theorem dX13_isFriend_18 : decode cX13_isFriend 18 = .ok (.iconst 1, 1) := by decide +kernel
theorem dX13_isFriend_19 : decode cX13_isFriend 19 = .ok (.invokevirtual 326, 3) := by decide +kernel
theorem dX13_isFriend_22 : decode cX13_isFriend 22 = .ok (.ireturn, 1) := by decide +kernel
theorem dX13_isWhat_0 : decode cX13_isWhat 0 = .ok (.aload_n 0, 1) := by decide +kernel
theorem dX13_isWhat_1 : decode cX13_isWhat 1 = .ok (.iload_n 1, 1) := by decide +kernel
theorem dX13_isWhat_2 : decode cX13_isWhat 2 = .ok (.iconst 0, 1) := by decide +kernel
theorem dX13_isWhat_3 : decode cX13_isWhat 3 = .ok (.iload_n 2, 1) := by decide +kernel
theorem dX13_isWhat_4 : decode cX13_isWhat 4 = .ok (.invokestatic 407, 3) := by decide +kernel
theorem dX13_isWhat_7 : decode cX13_isWhat 7 = .ok (.iconst 1, 1) := by decide +kernel
theorem dX13_isWhat_8 : decode cX13_isWhat 8 = .ok (.invokevirtual 326, 3) := by decide +kernel
theorem dX13_isWhat_11 : decode cX13_isWhat 11 = .ok (.ireturn, 1) := by decide +kernel
theorem dX13_deed_0 : decode cX13_deed 0 = .ok (.aload_n 0, 1) := by decide +kernel
theorem dX13_deed_1 : decode cX13_deed 1 = .ok (.iconst 0, 1) := by decide +kernel
theorem dX13_deed_2 : decode cX13_deed 2 = .ok (.putfield 141, 3) := by decide +kernel
theorem dX13_deed_5 : decode cX13_deed 5 = .ok (.aload_n 0, 1) := by decide +kernel
theorem dX13_deed_6 : decode cX13_deed 6 = .ok (.iload_n 1, 1) := by decide +kernel
theorem dX13_deed_7 : decode cX13_deed 7 = .ok (.invokevirtual 411, 3) := by decide +kernel
theorem dX13_deed_10 : decode cX13_deed 10 = .ok (.ifCond .eq 12, 3) := by decide +kernel
theorem dX13_deed_13 : decode cX13_deed 13 = .ok (.aload_n 0, 1) := by decide +kernel
theorem dX13_deed_14 : decode cX13_deed 14 = .ok (.iload_n 2, 1) := by decide +kernel
theorem dX13_deed_15 : decode cX13_deed 15 = .ok (.iconst 4, 1) := by decide +kernel
theorem dX13_deed_16 : decode cX13_deed 16 = .ok (.invokevirtual 414, 3) := by decide +kernel
theorem dX13_deed_19 : decode cX13_deed 19 = .ok (.ifCond .ne 5, 3) := by decide +kernel
theorem dX13_deed_22 : decode cX13_deed 22 = .ok (.iconst 0, 1) := by decide +kernel
theorem dX13_deed_23 : decode cX13_deed 23 = .ok (.ireturn, 1) := by decide +kernel
theorem dX13_deed_24 : decode cX13_deed 24 = .ok (.iload_n 2, 1) := by decide +kernel
theorem dX13_deed_25 : decode cX13_deed 25 = .ok (.ifCond .ne 12, 3) := by decide +kernel
theorem dX13_deed_28 : decode cX13_deed 28 = .ok (.aload_n 0, 1) := by decide +kernel
theorem dX13_deed_29 : decode cX13_deed 29 = .ok (.getfield 16, 3) := by decide +kernel
theorem dX13_deed_32 : decode cX13_deed 32 = .ok (.iload_n 1, 1) := by decide +kernel
theorem dX13_deed_33 : decode cX13_deed 33 = .ok (.iaload, 1) := by decide +kernel
theorem dX13_deed_34 : decode cX13_deed 34 = .ok (.goto 65, 3) := by decide +kernel
theorem dX13_deed_37 : decode cX13_deed 37 = .ok (.iload_n 2, 1) := by decide +kernel
theorem dX13_deed_38 : decode cX13_deed 38 = .ok (.iconst 1, 1) := by decide +kernel
theorem dX13_deed_39 : decode cX13_deed 39 = .ok (.if_icmp .ne 12, 3) := by decide +kernel
theorem dX13_deed_42 : decode cX13_deed 42 = .ok (.aload_n 0, 1) := by decide +kernel
theorem dX13_deed_43 : decode cX13_deed 43 = .ok (.getfield 20, 3) := by decide +kernel
theorem dX13_deed_46 : decode cX13_deed 46 = .ok (.iload_n 1, 1) := by decide +kernel
theorem dX13_deed_47 : decode cX13_deed 47 = .ok (.iaload, 1) := by decide +kernel
theorem dX13_deed_48 : decode cX13_deed 48 = .ok (.goto 51, 3) := by decide +kernel
theorem dX13_deed_51 : decode cX13_deed 51 = .ok (.iload_n 2, 1) := by decide +kernel
theorem dX13_deed_52 : decode cX13_deed 52 = .ok (.iconst 2, 1) := by decide +kernel
theorem dX13_deed_53 : decode cX13_deed 53 = .ok (.if_icmp .ne 12, 3) := by decide +kernel
theorem dX13_deed_56 : decode cX13_deed 56 = .ok (.aload_n 0, 1) := by decide +kernel
theorem dX13_deed_57 : decode cX13_deed 57 = .ok (.getfield 23, 3) := by decide +kernel
theorem dX13_deed_60 : decode cX13_deed 60 = .ok (.iload_n 1, 1) := by decide +kernel
theorem dX13_deed_61 : decode cX13_deed 61 = .ok (.iaload, 1) := by decide +kernel
theorem dX13_deed_62 : decode cX13_deed 62 = .ok (.goto 37, 3) := by decide +kernel
theorem dX13_deed_65 : decode cX13_deed 65 = .ok (.iload_n 2, 1) := by decide +kernel
theorem dX13_deed_66 : decode cX13_deed 66 = .ok (.iconst 3, 1) := by decide +kernel
theorem dX13_deed_67 : decode cX13_deed 67 = .ok (.if_icmp .ne 12, 3) := by decide +kernel
theorem dX13_deed_70 : decode cX13_deed 70 = .ok (.aload_n 0, 1) := by decide +kernel
theorem dX13_deed_71 : decode cX13_deed 71 = .ok (.getfield 26, 3) := by decide +kernel
theorem dX13_deed_74 : decode cX13_deed 74 = .ok (.iload_n 1, 1) := by decide +kernel
theorem dX13_deed_75 : decode cX13_deed 75 = .ok (.iaload, 1) := by decide +kernel
theorem dX13_deed_76 : decode cX13_deed 76 = .ok (.goto 23, 3) := by decide +kernel
theorem dX13_deed_79 : decode cX13_deed 79 = .ok (.aload_n 0, 1) := by decide +kernel
theorem dX13_deed_80 : decode cX13_deed 80 = .ok (.getfield 16, 3) := by decide +kernel
theorem dX13_deed_83 : decode cX13_deed 83 = .ok (.iload_n 1, 1) := by decide +kernel
theorem dX13_deed_84 : decode cX13_deed 84 = .ok (.iaload, 1) := by decide +kernel
theorem dX13_deed_85 : decode cX13_deed 85 = .ok (.aload_n 0, 1) := by decide +kernel
theorem dX13_deed_86 : decode cX13_deed 86 = .ok (.getfield 108, 3) := by decide +kernel
theorem dX13_deed_89 : decode cX13_deed 89 = .ok (.iconst 0, 1) := by decide +kernel
theorem dX13_deed_90 : decode cX13_deed 90 = .ok (.iaload, 1) := by decide +kernel
theorem dX13_deed_91 : decode cX13_deed 91 = .ok (.if_icmp .gt 7, 3) := by decide +kernel
theorem dX13_deed_94 : decode cX13_deed 94 = .ok (.iconst 1, 1) := by decide +kernel
theorem dX13_deed_95 : decode cX13_deed 95 = .ok (.goto 4, 3) := by decide +kernel
theorem dX13_deed_98 : decode cX13_deed 98 = .ok (.iconst 0, 1) := by decide +kernel
theorem dX13_deed_99 : decode cX13_deed 99 = .ok (.ireturn, 1) := by decide +kernel
theorem dX13_brother_0 : decode cX13_brother 0 = .ok (.aload_n 0, 1) := by decide +kernel
theorem dX13_brother_1 : decode cX13_brother 1 = .ok (.iconst 0, 1) := by decide +kernel
theorem dX13_brother_2 : decode cX13_brother 2 = .ok (.putfield 141, 3) := by decide +kernel
theorem dX13_brother_5 : decode cX13_brother 5 = .ok (.aload_n 0, 1) := by decide +kernel
theorem dX13_brother_6 : decode cX13_brother 6 = .ok (.iload_n 1, 1) := by decide +kernel
theorem dX13_brother_7 : decode cX13_brother 7 = .ok (.invokevirtual 417, 3) := by decide +kernel
theorem dX13_brother_10 : decode cX13_brother 10 = .ok (.ifCond .eq 12, 3) := by decide +kernel
theorem dX13_brother_13 : decode cX13_brother 13 = .ok (.aload_n 0, 1) := by decide +kernel
theorem dX13_brother_14 : decode cX13_brother 14 = .ok (.iload_n 2, 1) := by decide +kernel
theorem dX13_brother_15 : decode cX13_brother 15 = .ok (.iconst 5, 1) := by decide +kernel
theorem dX13_brother_16 : decode cX13_brother 16 = .ok (.invokevirtual 414, 3) := by decide +kernel
theorem dX13_brother_19 : decode cX13_brother 19 = .ok (.ifCond .ne 5, 3) := by decide +kernel
theorem dX13_brother_22 : decode cX13_brother 22 = .ok (.iconst 0, 1) := by decide +kernel
theorem dX13_brother_23 : decode cX13_brother 23 = .ok (.ireturn, 1) := by decide +kernel
theorem dX13_brother_24 : decode cX13_brother 24 = .ok (.iload_n 2, 1) := by decide +kernel
theorem dX13_brother_25 : decode cX13_brother 25 = .ok (.tableswitch 80 0 4 #[35, 45, 55, 62, 69], 35) := by decide +kernel
theorem dX13_brother_60 : decode cX13_brother 60 = .ok (.aload_n 0, 1) := by decide +kernel
theorem dX13_brother_61 : decode cX13_brother 61 = .ok (.getfield 108, 3) := by decide +kernel
theorem dX13_brother_64 : decode cX13_brother 64 = .ok (.bipush 6, 2) := by decide +kernel
theorem dX13_brother_66 : decode cX13_brother 66 = .ok (.iload_n 1, 1) := by decide +kernel
theorem dX13_brother_67 : decode cX13_brother 67 = .ok (.iadd, 1) := by decide +kernel
theorem dX13_brother_68 : decode cX13_brother 68 = .ok (.iaload, 1) := by decide +kernel
theorem dX13_brother_69 : decode cX13_brother 69 = .ok (.ireturn, 1) := by decide +kernel
theorem dX13_brother_70 : decode cX13_brother 70 = .ok (.aload_n 0, 1) := by decide +kernel
theorem dX13_brother_71 : decode cX13_brother 71 = .ok (.getfield 108, 3) := by decide +kernel
theorem dX13_brother_74 : decode cX13_brother 74 = .ok (.bipush 10, 2) := by decide +kernel
theorem dX13_brother_76 : decode cX13_brother 76 = .ok (.iload_n 1, 1) := by decide +kernel
theorem dX13_brother_77 : decode cX13_brother 77 = .ok (.iadd, 1) := by decide +kernel
theorem dX13_brother_78 : decode cX13_brother 78 = .ok (.iaload, 1) := by decide +kernel
theorem dX13_brother_79 : decode cX13_brother 79 = .ok (.ireturn, 1) := by decide +kernel
theorem dX13_brother_80 : decode cX13_brother 80 = .ok (.aload_n 0, 1) := by decide +kernel
theorem dX13_brother_81 : decode cX13_brother 81 = .ok (.getfield 29, 3) := by decide +kernel
theorem dX13_brother_84 : decode cX13_brother 84 = .ok (.iload_n 1, 1) := by decide +kernel
theorem dX13_brother_85 : decode cX13_brother 85 = .ok (.iaload, 1) := by decide +kernel
theorem dX13_brother_86 : decode cX13_brother 86 = .ok (.ireturn, 1) := by decide +kernel
theorem dX13_brother_87 : decode cX13_brother 87 = .ok (.aload_n 0, 1) := by decide +kernel
theorem dX13_brother_88 : decode cX13_brother 88 = .ok (.iconst 0, 1) := by decide +kernel
theorem dX13_brother_89 : decode cX13_brother 89 = .ok (.iload_n 1, 1) := by decide +kernel
theorem dX13_brother_90 : decode cX13_brother 90 = .ok (.invokevirtual 375, 3) := by decide +kernel
theorem dX13_brother_93 : decode cX13_brother 93 = .ok (.ireturn, 1) := by decide +kernel
theorem dX13_brother_94 : decode cX13_brother 94 = .ok (.aload_n 0, 1) := by decide +kernel
theorem dX13_brother_95 : decode cX13_brother 95 = .ok (.aload_n 0, 1) := by decide +kernel
theorem dX13_brother_96 : decode cX13_brother 96 = .ok (.iconst 0, 1) := by decide +kernel
theorem dX13_brother_97 : decode cX13_brother 97 = .ok (.iload_n 1, 1) := by decide +kernel
theorem dX13_brother_98 : decode cX13_brother 98 = .ok (.invokevirtual 375, 3) := by decide +kernel
theorem dX13_brother_101 : decode cX13_brother 101 = .ok (.invokevirtual 378, 3) := by decide +kernel
theorem dX13_brother_104 : decode cX13_brother 104 = .ok (.ireturn, 1) := by decide +kernel
theorem dX13_brother_105 : decode cX13_brother 105 = .ok (.aload_n 0, 1) := by decide +kernel
theorem dX13_brother_106 : decode cX13_brother 106 = .ok (.iconst 0, 1) := by decide +kernel
theorem dX13_brother_107 : decode cX13_brother 107 = .ok (.iload_n 1, 1) := by decide +kernel
theorem dX13_brother_108 : decode cX13_brother 108 = .ok (.invokevirtual 393, 3) := by decide +kernel
theorem dX13_brother_111 : decode cX13_brother 111 = .ok (.ireturn, 1) := by decide +kernel
theorem dX13_way_0 : decode cX13_way 0 = .ok (.aload_n 0, 1) := by decide +kernel
theorem dX13_way_1 : decode cX13_way 1 = .ok (.iconst 0, 1) := by decide +kernel
theorem dX13_way_2 : decode cX13_way 2 = .ok (.putfield 141, 3) := by decide +kernel
theorem dX13_way_5 : decode cX13_way 5 = .ok (.aload_n 0, 1) := by decide +kernel
theorem dX13_way_6 : decode cX13_way 6 = .ok (.iload_n 1, 1) := by decide +kernel
theorem dX13_way_7 : decode cX13_way 7 = .ok (.invokevirtual 417, 3) := by decide +kernel
theorem dX13_way_10 : decode cX13_way 10 = .ok (.ifCond .eq 47, 3) := by decide +kernel
theorem dX13_way_13 : decode cX13_way 13 = .ok (.aload_n 0, 1) := by decide +kernel
theorem dX13_way_14 : decode cX13_way 14 = .ok (.iload_n 2, 1) := by decide +kernel
theorem dX13_way_15 : decode cX13_way 15 = .ok (.ifCond .lt 17, 3) := by decide +kernel
theorem dX13_way_18 : decode cX13_way 18 = .ok (.iload_n 2, 1) := by decide +kernel
theorem dX13_way_19 : decode cX13_way 19 = .ok (.aload_n 0, 1) := by decide +kernel
theorem dX13_way_20 : decode cX13_way 20 = .ok (.getfield 29, 3) := by decide +kernel
theorem dX13_way_23 : decode cX13_way 23 = .ok (.iload_n 1, 1) := by decide +kernel
theorem dX13_way_24 : decode cX13_way 24 = .ok (.iaload, 1) := by decide +kernel
theorem dX13_way_25 : decode cX13_way 25 = .ok (.if_icmp .ge 7, 3) := by decide +kernel
theorem dX13_way_28 : decode cX13_way 28 = .ok (.iconst 1, 1) := by decide +kernel
theorem dX13_way_29 : decode cX13_way 29 = .ok (.goto 4, 3) := by decide +kernel
theorem dX13_way_32 : decode cX13_way 32 = .ok (.iconst 0, 1) := by decide +kernel
theorem dX13_way_33 : decode cX13_way 33 = .ok (.iconst 1, 1) := by decide +kernel
theorem dX13_way_34 : decode cX13_way 34 = .ok (.invokevirtual 326, 3) := by decide +kernel
theorem dX13_way_37 : decode cX13_way 37 = .ok (.ifCond .eq 20, 3) := by decide +kernel
theorem dX13_way_40 : decode cX13_way 40 = .ok (.aload_n 0, 1) := by decide +kernel
theorem dX13_way_41 : decode cX13_way 41 = .ok (.getfield 108, 3) := by decide +kernel
theorem dX13_way_44 : decode cX13_way 44 = .ok (.bipush 13, 2) := by decide +kernel
theorem dX13_way_46 : decode cX13_way 46 = .ok (.bipush 6, 2) := by decide +kernel
theorem dX13_way_48 : decode cX13_way 48 = .ok (.iload_n 1, 1) := by decide +kernel
theorem dX13_way_49 : decode cX13_way 49 = .ok (.imul, 1) := by decide +kernel
theorem dX13_way_50 : decode cX13_way 50 = .ok (.iadd, 1) := by decide +kernel
theorem dX13_way_51 : decode cX13_way 51 = .ok (.iload_n 2, 1) := by decide +kernel
theorem dX13_way_52 : decode cX13_way 52 = .ok (.iadd, 1) := by decide +kernel
theorem dX13_way_53 : decode cX13_way 53 = .ok (.iaload, 1) := by decide +kernel
theorem dX13_way_54 : decode cX13_way 54 = .ok (.goto 4, 3) := by decide +kernel
theorem dX13_way_57 : decode cX13_way 57 = .ok (.iconst 0, 1) := by decide +kernel
theorem dX13_way_58 : decode cX13_way 58 = .ok (.ireturn, 1) := by decide +kernel
theorem dX13_friend_0 : decode cX13_friend 0 = .ok (.aload_n 0, 1) := by decide +kernel
theorem dX13_friend_1 : decode cX13_friend 1 = .ok (.iconst 0, 1) := by decide +kernel
theorem dX13_friend_2 : decode cX13_friend 2 = .ok (.putfield 141, 3) := by decide +kernel
theorem dX13_friend_5 : decode cX13_friend 5 = .ok (.aload_n 0, 1) := by decide +kernel
theorem dX13_friend_6 : decode cX13_friend 6 = .ok (.iload_n 1, 1) := by decide +kernel
theorem dX13_friend_7 : decode cX13_friend 7 = .ok (.invokevirtual 420, 3) := by decide +kernel
theorem dX13_friend_10 : decode cX13_friend 10 = .ok (.ifCond .eq 12, 3) := by decide +kernel
theorem dX13_friend_13 : decode cX13_friend 13 = .ok (.aload_n 0, 1) := by decide +kernel
theorem dX13_friend_14 : decode cX13_friend 14 = .ok (.iload_n 2, 1) := by decide +kernel
theorem dX13_friend_15 : decode cX13_friend 15 = .ok (.iconst 4, 1) := by decide +kernel
theorem dX13_friend_16 : decode cX13_friend 16 = .ok (.invokevirtual 414, 3) := by decide +kernel
theorem dX13_friend_19 : decode cX13_friend 19 = .ok (.ifCond .ne 5, 3) := by decide +kernel
theorem dX13_friend_22 : decode cX13_friend 22 = .ok (.iconst 0, 1) := by decide +kernel
theorem dX13_friend_23 : decode cX13_friend 23 = .ok (.ireturn, 1) := by decide +kernel
theorem dX13_friend_24 : decode cX13_friend 24 = .ok (.iload_n 2, 1) := by decide +kernel
theorem dX13_friend_25 : decode cX13_friend 25 = .ok (.iconst 3, 1) := by decide +kernel
theorem dX13_friend_26 : decode cX13_friend 26 = .ok (.if_icmp .ge 42, 3) := by decide +kernel
theorem dX13_friend_29 : decode cX13_friend 29 = .ok (.iload_n 2, 1) := by decide +kernel
theorem dX13_friend_30 : decode cX13_friend 30 = .ok (.ifCond .ne 15, 3) := by decide +kernel
theorem dX13_friend_33 : decode cX13_friend 33 = .ok (.aload_n 0, 1) := by decide +kernel
theorem dX13_friend_34 : decode cX13_friend 34 = .ok (.getfield 108, 3) := by decide +kernel
theorem dX13_friend_37 : decode cX13_friend 37 = .ok (.bipush 25, 2) := by decide +kernel
theorem dX13_friend_39 : decode cX13_friend 39 = .ok (.iload_n 1, 1) := by decide +kernel
theorem dX13_friend_40 : decode cX13_friend 40 = .ok (.iadd, 1) := by decide +kernel
theorem dX13_friend_41 : decode cX13_friend 41 = .ok (.iaload, 1) := by decide +kernel
theorem dX13_friend_42 : decode cX13_friend 42 = .ok (.goto 25, 3) := by decide +kernel
theorem dX13_friend_45 : decode cX13_friend 45 = .ok (.iload_n 2, 1) := by decide +kernel
theorem dX13_friend_46 : decode cX13_friend 46 = .ok (.iconst 1, 1) := by decide +kernel
theorem dX13_friend_47 : decode cX13_friend 47 = .ok (.if_icmp .ne 12, 3) := by decide +kernel
theorem dX13_friend_50 : decode cX13_friend 50 = .ok (.aload_n 0, 1) := by decide +kernel
theorem dX13_friend_51 : decode cX13_friend 51 = .ok (.getfield 35, 3) := by decide +kernel
theorem dX13_friend_54 : decode cX13_friend 54 = .ok (.iload_n 1, 1) := by decide +kernel
theorem dX13_friend_55 : decode cX13_friend 55 = .ok (.iaload, 1) := by decide +kernel
theorem dX13_friend_56 : decode cX13_friend 56 = .ok (.goto 11, 3) := by decide +kernel
theorem dX13_friend_59 : decode cX13_friend 59 = .ok (.aload_n 0, 1) := by decide +kernel
theorem dX13_friend_60 : decode cX13_friend 60 = .ok (.iconst 0, 1) := by decide +kernel
theorem dX13_friend_61 : decode cX13_friend 61 = .ok (.iload_n 1, 1) := by decide +kernel
theorem dX13_friend_62 : decode cX13_friend 62 = .ok (.iconst 0, 1) := by decide +kernel
theorem dX13_friend_63 : decode cX13_friend 63 = .ok (.iconst 0, 1) := by decide +kernel
theorem dX13_friend_64 : decode cX13_friend 64 = .ok (.invokevirtual 372, 3) := by decide +kernel
theorem dX13_friend_67 : decode cX13_friend 67 = .ok (.ireturn, 1) := by decide +kernel
theorem dX13_friend_68 : decode cX13_friend 68 = .ok (.aload_n 0, 1) := by decide +kernel
theorem dX13_friend_69 : decode cX13_friend 69 = .ok (.getfield 13, 3) := by decide +kernel
theorem dX13_friend_72 : decode cX13_friend 72 = .ok (.iconst (-1), 1) := by decide +kernel
theorem dX13_friend_73 : decode cX13_friend 73 = .ok (.if_icmp .ne 7, 3) := by decide +kernel
theorem dX13_friend_76 : decode cX13_friend 76 = .ok (.iconst 0, 1) := by decide +kernel
theorem dX13_friend_77 : decode cX13_friend 77 = .ok (.goto 13, 3) := by decide +kernel
theorem dX13_friend_80 : decode cX13_friend 80 = .ok (.aload_n 0, 1) := by decide +kernel
theorem dX13_friend_81 : decode cX13_friend 81 = .ok (.iconst 0, 1) := by decide +kernel
theorem dX13_friend_82 : decode cX13_friend 82 = .ok (.iload_n 1, 1) := by decide +kernel
theorem dX13_friend_83 : decode cX13_friend 83 = .ok (.iload_n 2, 1) := by decide +kernel
theorem dX13_friend_84 : decode cX13_friend 84 = .ok (.iconst 3, 1) := by decide +kernel
theorem dX13_friend_85 : decode cX13_friend 85 = .ok (.isub, 1) := by decide +kernel
theorem dX13_friend_86 : decode cX13_friend 86 = .ok (.iconst 0, 1) := by decide +kernel
theorem dX13_friend_87 : decode cX13_friend 87 = .ok (.invokevirtual 368, 3) := by decide +kernel
theorem dX13_friend_90 : decode cX13_friend 90 = .ok (.ireturn, 1) := by decide +kernel
theorem dX13_years_0 : decode cX13_years 0 = .ok (.aload_n 0, 1) := by decide +kernel
theorem dX13_years_1 : decode cX13_years 1 = .ok (.iconst 0, 1) := by decide +kernel
theorem dX13_years_2 : decode cX13_years 2 = .ok (.putfield 141, 3) := by decide +kernel
theorem dX13_years_5 : decode cX13_years 5 = .ok (.iload_n 1, 1) := by decide +kernel
theorem dX13_years_6 : decode cX13_years 6 = .ok (.iconst 1, 1) := by decide +kernel
theorem dX13_years_7 : decode cX13_years 7 = .ok (.bipush 20, 2) := by decide +kernel
theorem dX13_years_9 : decode cX13_years 9 = .ok (.invokestatic 407, 3) := by decide +kernel
theorem dX13_years_12 : decode cX13_years 12 = .ok (.ifCond .eq 17, 3) := by decide +kernel
theorem dX13_years_15 : decode cX13_years 15 = .ok (.aload_n 0, 1) := by decide +kernel
theorem dX13_years_16 : decode cX13_years 16 = .ok (.getfield 108, 3) := by decide +kernel
theorem dX13_years_19 : decode cX13_years 19 = .ok (.iconst 3, 1) := by decide +kernel
theorem dX13_years_20 : decode cX13_years 20 = .ok (.iaload, 1) := by decide +kernel
theorem dX13_years_21 : decode cX13_years 21 = .ok (.iload_n 1, 1) := by decide +kernel
theorem dX13_years_22 : decode cX13_years 22 = .ok (.iadd, 1) := by decide +kernel
theorem dX13_years_23 : decode cX13_years 23 = .ok (.sipush 999, 3) := by decide +kernel
theorem dX13_years_26 : decode cX13_years 26 = .ok (.if_icmp .le 9, 3) := by decide +kernel
theorem dX13_years_29 : decode cX13_years 29 = .ok (.aload_n 0, 1) := by decide +kernel
theorem dX13_years_30 : decode cX13_years 30 = .ok (.iconst 1, 1) := by decide +kernel
theorem dX13_years_31 : decode cX13_years 31 = .ok (.invokevirtual 423, 3) := by decide +kernel
theorem dX13_years_34 : decode cX13_years 34 = .ok (.ireturn, 1) := by decide +kernel
theorem dX13_years_35 : decode cX13_years 35 = .ok (.aload_n 0, 1) := by decide +kernel
theorem dX13_years_36 : decode cX13_years 36 = .ok (.invokevirtual 426, 3) := by decide +kernel
theorem dX13_years_39 : decode cX13_years 39 = .ok (.aload_n 0, 1) := by decide +kernel
theorem dX13_years_40 : decode cX13_years 40 = .ok (.iconst 0, 1) := by decide +kernel
theorem dX13_years_41 : decode cX13_years 41 = .ok (.iload_n 1, 1) := by decide +kernel
theorem dX13_years_42 : decode cX13_years 42 = .ok (.invokevirtual 429, 3) := by decide +kernel
theorem dX13_years_45 : decode cX13_years 45 = .ok (.aload_n 0, 1) := by decide +kernel
theorem dX13_years_46 : decode cX13_years 46 = .ok (.getfield 108, 3) := by decide +kernel
theorem dX13_years_49 : decode cX13_years 49 = .ok (.iconst 3, 1) := by decide +kernel
theorem dX13_years_50 : decode cX13_years 50 = .ok (.iaload, 1) := by decide +kernel
theorem dX13_years_51 : decode cX13_years 51 = .ok (.ireturn, 1) := by decide +kernel
theorem dX13_change_0 : decode cX13_change 0 = .ok (.aload_n 0, 1) := by decide +kernel
theorem dX13_change_1 : decode cX13_change 1 = .ok (.iconst 0, 1) := by decide +kernel
theorem dX13_change_2 : decode cX13_change 2 = .ok (.putfield 141, 3) := by decide +kernel
theorem dX13_change_5 : decode cX13_change 5 = .ok (.aload_n 0, 1) := by decide +kernel
theorem dX13_change_6 : decode cX13_change 6 = .ok (.iload_n 1, 1) := by decide +kernel
theorem dX13_change_7 : decode cX13_change 7 = .ok (.invokevirtual 417, 3) := by decide +kernel
theorem dX13_change_10 : decode cX13_change 10 = .ok (.ifCond .eq 11, 3) := by decide +kernel
theorem dX13_change_13 : decode cX13_change 13 = .ok (.aload_n 0, 1) := by decide +kernel
theorem dX13_change_14 : decode cX13_change 14 = .ok (.iload_n 3, 1) := by decide +kernel
theorem dX13_change_15 : decode cX13_change 15 = .ok (.invokevirtual 411, 3) := by decide +kernel
theorem dX13_change_18 : decode cX13_change 18 = .ok (.ifCond .ne 5, 3) := by decide +kernel
theorem dX13_change_21 : decode cX13_change 21 = .ok (.iconst 0, 1) := by decide +kernel
theorem dX13_change_22 : decode cX13_change 22 = .ok (.ireturn, 1) := by decide +kernel
theorem dX13_change_23 : decode cX13_change 23 = .ok (.iload_n 2, 1) := by decide +kernel
theorem dX13_change_24 : decode cX13_change 24 = .ok (.ifCond .lt 13, 3) := by decide +kernel
theorem dX13_change_27 : decode cX13_change 27 = .ok (.iload_n 2, 1) := by decide +kernel
theorem dX13_change_28 : decode cX13_change 28 = .ok (.aload_n 0, 1) := by decide +kernel
theorem dX13_change_29 : decode cX13_change 29 = .ok (.getfield 29, 3) := by decide +kernel
theorem dX13_change_32 : decode cX13_change 32 = .ok (.iload_n 1, 1) := by decide +kernel
theorem dX13_change_33 : decode cX13_change 33 = .ok (.iaload, 1) := by decide +kernel
theorem dX13_change_34 : decode cX13_change 34 = .ok (.if_icmp .lt 9, 3) := by decide +kernel
theorem dX13_change_37 : decode cX13_change 37 = .ok (.aload_n 0, 1) := by decide +kernel
theorem dX13_change_38 : decode cX13_change 38 = .ok (.iconst 1, 1) := by decide +kernel
theorem dX13_change_39 : decode cX13_change 39 = .ok (.invokevirtual 423, 3) := by decide +kernel
theorem dX13_change_42 : decode cX13_change 42 = .ok (.ireturn, 1) := by decide +kernel
theorem dX13_change_43 : decode cX13_change 43 = .ok (.aload_n 0, 1) := by decide +kernel
theorem dX13_change_44 : decode cX13_change 44 = .ok (.invokevirtual 426, 3) := by decide +kernel
theorem dX13_change_47 : decode cX13_change 47 = .ok (.aload_n 0, 1) := by decide +kernel
theorem dX13_change_48 : decode cX13_change 48 = .ok (.getfield 108, 3) := by decide +kernel
theorem dX13_change_51 : decode cX13_change 51 = .ok (.bipush 13, 2) := by decide +kernel
theorem dX13_change_53 : decode cX13_change 53 = .ok (.bipush 6, 2) := by decide +kernel
theorem dX13_change_55 : decode cX13_change 55 = .ok (.iload_n 1, 1) := by decide +kernel
theorem dX13_change_56 : decode cX13_change 56 = .ok (.imul, 1) := by decide +kernel
theorem dX13_change_57 : decode cX13_change 57 = .ok (.iadd, 1) := by decide +kernel
theorem dX13_change_58 : decode cX13_change 58 = .ok (.iload_n 2, 1) := by decide +kernel
theorem dX13_change_59 : decode cX13_change 59 = .ok (.iadd, 1) := by decide +kernel
theorem dX13_change_60 : decode cX13_change 60 = .ok (.iaload, 1) := by decide +kernel
theorem dX13_change_61 : decode cX13_change 61 = .ok (.istore 4, 2) := by decide +kernel
theorem dX13_change_63 : decode cX13_change 63 = .ok (.aload_n 0, 1) := by decide +kernel
theorem dX13_change_64 : decode cX13_change 64 = .ok (.getfield 108, 3) := by decide +kernel
theorem dX13_change_67 : decode cX13_change 67 = .ok (.bipush 13, 2) := by decide +kernel
theorem dX13_change_69 : decode cX13_change 69 = .ok (.bipush 6, 2) := by decide +kernel
theorem dX13_change_71 : decode cX13_change 71 = .ok (.iload_n 1, 1) := by decide +kernel
theorem dX13_change_72 : decode cX13_change 72 = .ok (.imul, 1) := by decide +kernel
theorem dX13_change_73 : decode cX13_change 73 = .ok (.iadd, 1) := by decide +kernel
theorem dX13_change_74 : decode cX13_change 74 = .ok (.iload_n 2, 1) := by decide +kernel
theorem dX13_change_75 : decode cX13_change 75 = .ok (.iadd, 1) := by decide +kernel
theorem dX13_change_76 : decode cX13_change 76 = .ok (.iload_n 3, 1) := by decide +kernel
theorem dX13_change_77 : decode cX13_change 77 = .ok (.iastore, 1) := by decide +kernel
theorem dX13_change_78 : decode cX13_change 78 = .ok (.iload 4, 2) := by decide +kernel
theorem dX13_change_80 : decode cX13_change 80 = .ok (.ireturn, 1) := by decide +kernel
theorem dX13_term_0 : decode cX13_term 0 = .ok (.aload_n 0, 1) := by decide +kernel
theorem dX13_term_1 : decode cX13_term 1 = .ok (.iconst 0, 1) := by decide +kernel
theorem dX13_term_2 : decode cX13_term 2 = .ok (.putfield 141, 3) := by decide +kernel
theorem dX13_term_5 : decode cX13_term 5 = .ok (.iload_n 1, 1) := by decide +kernel
theorem dX13_term_6 : decode cX13_term 6 = .ok (.iconst 1, 1) := by decide +kernel
theorem dX13_term_7 : decode cX13_term 7 = .ok (.iconst 5, 1) := by decide +kernel
theorem dX13_term_8 : decode cX13_term 8 = .ok (.invokestatic 407, 3) := by decide +kernel
theorem dX13_term_11 : decode cX13_term 11 = .ok (.ifCond .ne 9, 3) := by decide +kernel
theorem dX13_term_14 : decode cX13_term 14 = .ok (.aload_n 0, 1) := by decide +kernel
theorem dX13_term_15 : decode cX13_term 15 = .ok (.iconst 1, 1) := by decide +kernel
theorem dX13_term_16 : decode cX13_term 16 = .ok (.invokevirtual 423, 3) := by decide +kernel
theorem dX13_term_19 : decode cX13_term 19 = .ok (.ireturn, 1) := by decide +kernel
theorem dX13_term_20 : decode cX13_term 20 = .ok (.aload_n 0, 1) := by decide +kernel
theorem dX13_term_21 : decode cX13_term 21 = .ok (.invokevirtual 426, 3) := by decide +kernel
theorem dX13_term_24 : decode cX13_term 24 = .ok (.aload_n 0, 1) := by decide +kernel
theorem dX13_term_25 : decode cX13_term 25 = .ok (.getfield 108, 3) := by decide +kernel
theorem dX13_term_28 : decode cX13_term 28 = .ok (.bipush 12, 2) := by decide +kernel
theorem dX13_term_30 : decode cX13_term 30 = .ok (.iaload, 1) := by decide +kernel
theorem dX13_term_31 : decode cX13_term 31 = .ok (.istore_n 2, 1) := by decide +kernel
theorem dX13_term_32 : decode cX13_term 32 = .ok (.aload_n 0, 1) := by decide +kernel
theorem dX13_term_33 : decode cX13_term 33 = .ok (.getfield 108, 3) := by decide +kernel
theorem dX13_term_36 : decode cX13_term 36 = .ok (.bipush 12, 2) := by decide +kernel
theorem dX13_term_38 : decode cX13_term 38 = .ok (.iload_n 1, 1) := by decide +kernel
theorem dX13_term_39 : decode cX13_term 39 = .ok (.iastore, 1) := by decide +kernel
theorem dX13_term_40 : decode cX13_term 40 = .ok (.iload_n 2, 1) := by decide +kernel
theorem dX13_term_41 : decode cX13_term 41 = .ok (.ireturn, 1) := by decide +kernel
theorem dX13_loan_0 : decode cX13_loan 0 = .ok (.aload_n 0, 1) := by decide +kernel
theorem dX13_loan_1 : decode cX13_loan 1 = .ok (.iconst 0, 1) := by decide +kernel
theorem dX13_loan_2 : decode cX13_loan 2 = .ok (.putfield 141, 3) := by decide +kernel
theorem dX13_loan_5 : decode cX13_loan 5 = .ok (.iload_n 1, 1) := by decide +kernel
theorem dX13_loan_6 : decode cX13_loan 6 = .ok (.iconst 1, 1) := by decide +kernel
theorem dX13_loan_7 : decode cX13_loan 7 = .ok (.bipush 99, 2) := by decide +kernel
theorem dX13_loan_9 : decode cX13_loan 9 = .ok (.invokestatic 407, 3) := by decide +kernel
theorem dX13_loan_12 : decode cX13_loan 12 = .ok (.ifCond .ne 9, 3) := by decide +kernel
theorem dX13_loan_15 : decode cX13_loan 15 = .ok (.aload_n 0, 1) := by decide +kernel
theorem dX13_loan_16 : decode cX13_loan 16 = .ok (.iconst 1, 1) := by decide +kernel
theorem dX13_loan_17 : decode cX13_loan 17 = .ok (.invokevirtual 423, 3) := by decide +kernel
theorem dX13_loan_20 : decode cX13_loan 20 = .ok (.ireturn, 1) := by decide +kernel
theorem dX13_loan_21 : decode cX13_loan 21 = .ok (.aload_n 0, 1) := by decide +kernel
theorem dX13_loan_22 : decode cX13_loan 22 = .ok (.invokevirtual 426, 3) := by decide +kernel
theorem dX13_loan_25 : decode cX13_loan 25 = .ok (.aload_n 0, 1) := by decide +kernel
theorem dX13_loan_26 : decode cX13_loan 26 = .ok (.getfield 108, 3) := by decide +kernel
theorem dX13_loan_29 : decode cX13_loan 29 = .ok (.iconst 0, 1) := by decide +kernel
theorem dX13_loan_30 : decode cX13_loan 30 = .ok (.aload_n 0, 1) := by decide +kernel
theorem dX13_loan_31 : decode cX13_loan 31 = .ok (.getfield 108, 3) := by decide +kernel
theorem dX13_loan_34 : decode cX13_loan 34 = .ok (.iconst 0, 1) := by decide +kernel
theorem dX13_loan_35 : decode cX13_loan 35 = .ok (.iaload, 1) := by decide +kernel
theorem dX13_loan_36 : decode cX13_loan 36 = .ok (.iload_n 1, 1) := by decide +kernel
theorem dX13_loan_37 : decode cX13_loan 37 = .ok (.iadd, 1) := by decide +kernel
theorem dX13_loan_38 : decode cX13_loan 38 = .ok (.iconst 0, 1) := by decide +kernel
theorem dX13_loan_39 : decode cX13_loan 39 = .ok (.sipush 999, 3) := by decide +kernel
theorem dX13_loan_42 : decode cX13_loan 42 = .ok (.invokestatic 381, 3) := by decide +kernel
theorem dX13_loan_45 : decode cX13_loan 45 = .ok (.iastore, 1) := by decide +kernel
theorem dX13_loan_46 : decode cX13_loan 46 = .ok (.aload_n 0, 1) := by decide +kernel
theorem dX13_loan_47 : decode cX13_loan 47 = .ok (.getfield 108, 3) := by decide +kernel
theorem dX13_loan_50 : decode cX13_loan 50 = .ok (.iconst 2, 1) := by decide +kernel
theorem dX13_loan_51 : decode cX13_loan 51 = .ok (.aload_n 0, 1) := by decide +kernel
theorem dX13_loan_52 : decode cX13_loan 52 = .ok (.getfield 108, 3) := by decide +kernel
theorem dX13_loan_55 : decode cX13_loan 55 = .ok (.iconst 2, 1) := by decide +kernel
theorem dX13_loan_56 : decode cX13_loan 56 = .ok (.iaload, 1) := by decide +kernel
theorem dX13_loan_57 : decode cX13_loan 57 = .ok (.iload_n 1, 1) := by decide +kernel
theorem dX13_loan_58 : decode cX13_loan 58 = .ok (.iadd, 1) := by decide +kernel
theorem dX13_loan_59 : decode cX13_loan 59 = .ok (.iconst 0, 1) := by decide +kernel
theorem dX13_loan_60 : decode cX13_loan 60 = .ok (.sipush 999, 3) := by decide +kernel
theorem dX13_loan_63 : decode cX13_loan 63 = .ok (.invokestatic 381, 3) := by decide +kernel
theorem dX13_loan_66 : decode cX13_loan 66 = .ok (.iastore, 1) := by decide +kernel
theorem dX13_loan_67 : decode cX13_loan 67 = .ok (.aload_n 0, 1) := by decide +kernel
theorem dX13_loan_68 : decode cX13_loan 68 = .ok (.getfield 108, 3) := by decide +kernel
theorem dX13_loan_71 : decode cX13_loan 71 = .ok (.iconst 0, 1) := by decide +kernel
theorem dX13_loan_72 : decode cX13_loan 72 = .ok (.iaload, 1) := by decide +kernel
theorem dX13_loan_73 : decode cX13_loan 73 = .ok (.ireturn, 1) := by decide +kernel
theorem dX13_gift_0 : decode cX13_gift 0 = .ok (.aload_n 0, 1) := by decide +kernel
theorem dX13_gift_1 : decode cX13_gift 1 = .ok (.iconst 0, 1) := by decide +kernel
theorem dX13_gift_2 : decode cX13_gift 2 = .ok (.putfield 141, 3) := by decide +kernel
theorem dX13_gift_5 : decode cX13_gift 5 = .ok (.aload_n 0, 1) := by decide +kernel
theorem dX13_gift_6 : decode cX13_gift 6 = .ok (.iload_n 1, 1) := by decide +kernel
theorem dX13_gift_7 : decode cX13_gift 7 = .ok (.invokevirtual 420, 3) := by decide +kernel
theorem dX13_gift_10 : decode cX13_gift 10 = .ok (.ifCond .ne 5, 3) := by decide +kernel
theorem dX13_gift_13 : decode cX13_gift 13 = .ok (.iconst 0, 1) := by decide +kernel
theorem dX13_gift_14 : decode cX13_gift 14 = .ok (.ireturn, 1) := by decide +kernel
theorem dX13_gift_15 : decode cX13_gift 15 = .ok (.iload_n 2, 1) := by decide +kernel
theorem dX13_gift_16 : decode cX13_gift 16 = .ok (.iconst 1, 1) := by decide +kernel
theorem dX13_gift_17 : decode cX13_gift 17 = .ok (.bipush 9, 2) := by decide +kernel
theorem dX13_gift_19 : decode cX13_gift 19 = .ok (.invokestatic 407, 3) := by decide +kernel
theorem dX13_gift_22 : decode cX13_gift 22 = .ok (.ifCond .eq 13, 3) := by decide +kernel
theorem dX13_gift_25 : decode cX13_gift 25 = .ok (.iload_n 2, 1) := by decide +kernel
theorem dX13_gift_26 : decode cX13_gift 26 = .ok (.aload_n 0, 1) := by decide +kernel
theorem dX13_gift_27 : decode cX13_gift 27 = .ok (.getfield 108, 3) := by decide +kernel
theorem dX13_gift_30 : decode cX13_gift 30 = .ok (.iconst 0, 1) := by decide +kernel
theorem dX13_gift_31 : decode cX13_gift 31 = .ok (.iaload, 1) := by decide +kernel
theorem dX13_gift_32 : decode cX13_gift 32 = .ok (.if_icmp .le 9, 3) := by decide +kernel
theorem dX13_gift_35 : decode cX13_gift 35 = .ok (.aload_n 0, 1) := by decide +kernel
theorem dX13_gift_36 : decode cX13_gift 36 = .ok (.iconst 1, 1) := by decide +kernel
theorem dX13_gift_37 : decode cX13_gift 37 = .ok (.invokevirtual 423, 3) := by decide +kernel
theorem dX13_gift_40 : decode cX13_gift 40 = .ok (.ireturn, 1) := by decide +kernel
theorem dX13_gift_41 : decode cX13_gift 41 = .ok (.aload_n 0, 1) := by decide +kernel
theorem dX13_gift_42 : decode cX13_gift 42 = .ok (.invokevirtual 426, 3) := by decide +kernel
theorem dX13_gift_45 : decode cX13_gift 45 = .ok (.aload_n 0, 1) := by decide +kernel
theorem dX13_gift_46 : decode cX13_gift 46 = .ok (.getfield 108, 3) := by decide +kernel
theorem dX13_gift_49 : decode cX13_gift 49 = .ok (.iconst 0, 1) := by decide +kernel
theorem dX13_gift_50 : decode cX13_gift 50 = .ok (.dup2, 1) := by decide +kernel
theorem dX13_gift_51 : decode cX13_gift 51 = .ok (.iaload, 1) := by decide +kernel
theorem dX13_gift_52 : decode cX13_gift 52 = .ok (.iload_n 2, 1) := by decide +kernel
theorem dX13_gift_53 : decode cX13_gift 53 = .ok (.isub, 1) := by decide +kernel
theorem dX13_gift_54 : decode cX13_gift 54 = .ok (.iastore, 1) := by decide +kernel
theorem dX13_gift_55 : decode cX13_gift 55 = .ok (.aload_n 0, 1) := by decide +kernel
theorem dX13_gift_56 : decode cX13_gift 56 = .ok (.getfield 108, 3) := by decide +kernel
theorem dX13_gift_59 : decode cX13_gift 59 = .ok (.bipush 25, 2) := by decide +kernel
theorem dX13_gift_61 : decode cX13_gift 61 = .ok (.iload_n 1, 1) := by decide +kernel
theorem dX13_gift_62 : decode cX13_gift 62 = .ok (.iadd, 1) := by decide +kernel
theorem dX13_gift_63 : decode cX13_gift 63 = .ok (.aload_n 0, 1) := by decide +kernel
theorem dX13_gift_64 : decode cX13_gift 64 = .ok (.getfield 108, 3) := by decide +kernel
theorem dX13_gift_67 : decode cX13_gift 67 = .ok (.bipush 25, 2) := by decide +kernel
theorem dX13_gift_69 : decode cX13_gift 69 = .ok (.iload_n 1, 1) := by decide +kernel
theorem dX13_gift_70 : decode cX13_gift 70 = .ok (.iadd, 1) := by decide +kernel
theorem dX13_gift_71 : decode cX13_gift 71 = .ok (.iaload, 1) := by decide +kernel
theorem dX13_gift_72 : decode cX13_gift 72 = .ok (.aload_n 0, 1) := by decide +kernel
theorem dX13_gift_73 : decode cX13_gift 73 = .ok (.getfield 108, 3) := by decide +kernel
theorem dX13_gift_76 : decode cX13_gift 76 = .ok (.iconst 4, 1) := by decide +kernel
theorem dX13_gift_77 : decode cX13_gift 77 = .ok (.iaload, 1) := by decide +kernel
theorem dX13_gift_78 : decode cX13_gift 78 = .ok (.iconst 1, 1) := by decide +kernel
theorem dX13_gift_79 : decode cX13_gift 79 = .ok (.if_icmp .ne 7, 3) := by decide +kernel
theorem dX13_gift_82 : decode cX13_gift 82 = .ok (.iload_n 2, 1) := by decide +kernel
theorem dX13_gift_83 : decode cX13_gift 83 = .ok (.goto 6, 3) := by decide +kernel
theorem dX13_gift_86 : decode cX13_gift 86 = .ok (.iconst 0, 1) := by decide +kernel
theorem dX13_gift_87 : decode cX13_gift 87 = .ok (.iload_n 2, 1) := by decide +kernel
theorem dX13_gift_88 : decode cX13_gift 88 = .ok (.isub, 1) := by decide +kernel
theorem dX13_gift_89 : decode cX13_gift 89 = .ok (.iadd, 1) := by decide +kernel
theorem dX13_gift_90 : decode cX13_gift 90 = .ok (.bipush (-9), 2) := by decide +kernel
theorem dX13_gift_92 : decode cX13_gift 92 = .ok (.bipush 9, 2) := by decide +kernel
theorem dX13_gift_94 : decode cX13_gift 94 = .ok (.invokestatic 381, 3) := by decide +kernel
theorem dX13_gift_97 : decode cX13_gift 97 = .ok (.iastore, 1) := by decide +kernel
theorem dX13_gift_98 : decode cX13_gift 98 = .ok (.aload_n 0, 1) := by decide +kernel
theorem dX13_gift_99 : decode cX13_gift 99 = .ok (.getfield 108, 3) := by decide +kernel
theorem dX13_gift_102 : decode cX13_gift 102 = .ok (.bipush 25, 2) := by decide +kernel
theorem dX13_gift_104 : decode cX13_gift 104 = .ok (.iload_n 1, 1) := by decide +kernel
theorem dX13_gift_105 : decode cX13_gift 105 = .ok (.iadd, 1) := by decide +kernel
theorem dX13_gift_106 : decode cX13_gift 106 = .ok (.iaload, 1) := by decide +kernel
theorem dX13_gift_107 : decode cX13_gift 107 = .ok (.ireturn, 1) := by decide +kernel
theorem dX13_then_0 : decode cX13_then 0 = .ok (.aload_n 0, 1) := by decide +kernel
theorem dX13_then_1 : decode cX13_then 1 = .ok (.iconst 0, 1) := by decide +kernel
theorem dX13_then_2 : decode cX13_then 2 = .ok (.putfield 141, 3) := by decide +kernel
theorem dX13_then_5 : decode cX13_then 5 = .ok (.aload_n 0, 1) := by decide +kernel
theorem dX13_then_6 : decode cX13_then 6 = .ok (.iload_n 2, 1) := by decide +kernel
theorem dX13_then_7 : decode cX13_then 7 = .ok (.bipush 6, 2) := by decide +kernel
theorem dX13_then_9 : decode cX13_then 9 = .ok (.invokevirtual 414, 3) := by decide +kernel
theorem dX13_then_12 : decode cX13_then 12 = .ok (.ifCond .eq 18, 3) := by decide +kernel
theorem dX13_then_15 : decode cX13_then 15 = .ok (.aload_n 0, 1) := by decide +kernel
theorem dX13_then_16 : decode cX13_then 16 = .ok (.iload_n 1, 1) := by decide +kernel
theorem dX13_then_17 : decode cX13_then 17 = .ok (.iconst 0, 1) := by decide +kernel
theorem dX13_then_18 : decode cX13_then 18 = .ok (.bipush 60, 2) := by decide +kernel
theorem dX13_then_20 : decode cX13_then 20 = .ok (.invokestatic 407, 3) := by decide +kernel
theorem dX13_then_23 : decode cX13_then 23 = .ok (.iconst 2, 1) := by decide +kernel
theorem dX13_then_24 : decode cX13_then 24 = .ok (.invokevirtual 326, 3) := by decide +kernel
theorem dX13_then_27 : decode cX13_then 27 = .ok (.ifCond .ne 5, 3) := by decide +kernel
theorem dX13_then_30 : decode cX13_then 30 = .ok (.iconst 0, 1) := by decide +kernel
theorem dX13_then_31 : decode cX13_then 31 = .ok (.ireturn, 1) := by decide +kernel
theorem dX13_then_32 : decode cX13_then 32 = .ok (.aload_n 0, 1) := by decide +kernel
theorem dX13_then_33 : decode cX13_then 33 = .ok (.iconst 0, 1) := by decide +kernel
theorem dX13_then_34 : decode cX13_then 34 = .ok (.bipush 31, 2) := by decide +kernel
theorem dX13_then_36 : decode cX13_then 36 = .ok (.invokevirtual 432, 3) := by decide +kernel
theorem dX13_then_39 : decode cX13_then 39 = .ok (.aload_n 0, 1) := by decide +kernel
theorem dX13_then_40 : decode cX13_then 40 = .ok (.bipush 31, 2) := by decide +kernel
theorem dX13_then_42 : decode cX13_then 42 = .ok (.iload_n 1, 1) := by decide +kernel
theorem dX13_then_43 : decode cX13_then 43 = .ok (.invokevirtual 429, 3) := by decide +kernel
theorem dX13_then_46 : decode cX13_then 46 = .ok (.iload_n 2, 1) := by decide +kernel
theorem dX13_then_47 : decode cX13_then 47 = .ok (.tableswitch 67 0 5 #[37, 37, 37, 47, 47, 59], 37) := by decide +kernel
theorem dX13_then_84 : decode cX13_then 84 = .ok (.aload_n 0, 1) := by decide +kernel
theorem dX13_then_85 : decode cX13_then 85 = .ok (.getfield 108, 3) := by decide +kernel
theorem dX13_then_88 : decode cX13_then 88 = .ok (.bipush 31, 2) := by decide +kernel
theorem dX13_then_90 : decode cX13_then 90 = .ok (.iload_n 2, 1) := by decide +kernel
theorem dX13_then_91 : decode cX13_then 91 = .ok (.iadd, 1) := by decide +kernel
theorem dX13_then_92 : decode cX13_then 92 = .ok (.iaload, 1) := by decide +kernel
theorem dX13_then_93 : decode cX13_then 93 = .ok (.ireturn, 1) := by decide +kernel
theorem dX13_then_94 : decode cX13_then 94 = .ok (.aload_n 0, 1) := by decide +kernel
theorem dX13_then_95 : decode cX13_then 95 = .ok (.getfield 108, 3) := by decide +kernel
theorem dX13_then_98 : decode cX13_then 98 = .ok (.bipush 37, 2) := by decide +kernel
theorem dX13_then_100 : decode cX13_then 100 = .ok (.iload_n 2, 1) := by decide +kernel
theorem dX13_then_101 : decode cX13_then 101 = .ok (.iadd, 1) := by decide +kernel
theorem dX13_then_102 : decode cX13_then 102 = .ok (.iconst 3, 1) := by decide +kernel
theorem dX13_then_103 : decode cX13_then 103 = .ok (.isub, 1) := by decide +kernel
theorem dX13_then_104 : decode cX13_then 104 = .ok (.iaload, 1) := by decide +kernel
theorem dX13_then_105 : decode cX13_then 105 = .ok (.ireturn, 1) := by decide +kernel
theorem dX13_then_106 : decode cX13_then 106 = .ok (.aload_n 0, 1) := by decide +kernel
theorem dX13_then_107 : decode cX13_then 107 = .ok (.getfield 108, 3) := by decide +kernel
theorem dX13_then_110 : decode cX13_then 110 = .ok (.bipush 35, 2) := by decide +kernel
theorem dX13_then_112 : decode cX13_then 112 = .ok (.iaload, 1) := by decide +kernel
theorem dX13_then_113 : decode cX13_then 113 = .ok (.ireturn, 1) := by decide +kernel
theorem dX13_then_114 : decode cX13_then 114 = .ok (.aload_n 0, 1) := by decide +kernel
theorem dX13_then_115 : decode cX13_then 115 = .ok (.getfield 108, 3) := by decide +kernel
theorem dX13_then_118 : decode cX13_then 118 = .ok (.bipush 39, 2) := by decide +kernel
theorem dX13_then_120 : decode cX13_then 120 = .ok (.iaload, 1) := by decide +kernel
theorem dX13_then_121 : decode cX13_then 121 = .ok (.ireturn, 1) := by decide +kernel
theorem dX13_stays_0 : decode cX13_stays 0 = .ok (.aload_n 0, 1) := by decide +kernel
theorem dX13_stays_1 : decode cX13_stays 1 = .ok (.iconst 0, 1) := by decide +kernel
theorem dX13_stays_2 : decode cX13_stays 2 = .ok (.putfield 141, 3) := by decide +kernel
theorem dX13_stays_5 : decode cX13_stays 5 = .ok (.aload_n 0, 1) := by decide +kernel
theorem dX13_stays_6 : decode cX13_stays 6 = .ok (.iload_n 1, 1) := by decide +kernel
theorem dX13_stays_7 : decode cX13_stays 7 = .ok (.iconst 1, 1) := by decide +kernel
theorem dX13_stays_8 : decode cX13_stays 8 = .ok (.invokevirtual 414, 3) := by decide +kernel
theorem dX13_stays_11 : decode cX13_stays 11 = .ok (.ifCond .ne 5, 3) := by decide +kernel
theorem dX13_stays_14 : decode cX13_stays 14 = .ok (.iconst 0, 1) := by decide +kernel
theorem dX13_stays_15 : decode cX13_stays 15 = .ok (.ireturn, 1) := by decide +kernel
theorem dX13_stays_16 : decode cX13_stays 16 = .ok (.aload_n 0, 1) := by decide +kernel
theorem dX13_stays_17 : decode cX13_stays 17 = .ok (.iconst 0, 1) := by decide +kernel
theorem dX13_stays_18 : decode cX13_stays 18 = .ok (.bipush 31, 2) := by decide +kernel
theorem dX13_stays_20 : decode cX13_stays 20 = .ok (.invokevirtual 432, 3) := by decide +kernel
theorem dX13_stays_23 : decode cX13_stays 23 = .ok (.iconst 1, 1) := by decide +kernel
theorem dX13_stays_24 : decode cX13_stays 24 = .ok (.istore_n 2, 1) := by decide +kernel
theorem dX13_stays_25 : decode cX13_stays 25 = .ok (.iload_n 2, 1) := by decide +kernel
theorem dX13_stays_26 : decode cX13_stays 26 = .ok (.bipush 60, 2) := by decide +kernel
theorem dX13_stays_28 : decode cX13_stays 28 = .ok (.if_icmp .gt 52, 3) := by decide +kernel
theorem dX13_stays_31 : decode cX13_stays 31 = .ok (.aload_n 0, 1) := by decide +kernel
theorem dX13_stays_32 : decode cX13_stays 32 = .ok (.getfield 108, 3) := by decide +kernel
theorem dX13_stays_35 : decode cX13_stays 35 = .ok (.bipush 35, 2) := by decide +kernel
theorem dX13_stays_37 : decode cX13_stays 37 = .ok (.iaload, 1) := by decide +kernel
theorem dX13_stays_38 : decode cX13_stays 38 = .ok (.istore_n 3, 1) := by decide +kernel
theorem dX13_stays_39 : decode cX13_stays 39 = .ok (.aload_n 0, 1) := by decide +kernel
theorem dX13_stays_40 : decode cX13_stays 40 = .ok (.bipush 31, 2) := by decide +kernel
theorem dX13_stays_42 : decode cX13_stays 42 = .ok (.bipush (-2), 2) := by decide +kernel
theorem dX13_stays_44 : decode cX13_stays 44 = .ok (.invokevirtual 404, 3) := by decide +kernel
theorem dX13_stays_47 : decode cX13_stays 47 = .ok (.aload_n 0, 1) := by decide +kernel
theorem dX13_stays_48 : decode cX13_stays 48 = .ok (.getfield 108, 3) := by decide +kernel
theorem dX13_stays_51 : decode cX13_stays 51 = .ok (.bipush 40, 2) := by decide +kernel
theorem dX13_stays_53 : decode cX13_stays 53 = .ok (.iaload, 1) := by decide +kernel
theorem dX13_stays_54 : decode cX13_stays 54 = .ok (.aload_n 0, 1) := by decide +kernel
theorem dX13_stays_55 : decode cX13_stays 55 = .ok (.getfield 108, 3) := by decide +kernel
theorem dX13_stays_58 : decode cX13_stays 58 = .ok (.bipush 9, 2) := by decide +kernel
theorem dX13_stays_60 : decode cX13_stays 60 = .ok (.iaload, 1) := by decide +kernel
theorem dX13_stays_61 : decode cX13_stays 61 = .ok (.if_icmp .le 13, 3) := by decide +kernel
theorem dX13_stays_64 : decode cX13_stays 64 = .ok (.iload_n 1, 1) := by decide +kernel
theorem dX13_stays_65 : decode cX13_stays 65 = .ok (.ifCond .ne 7, 3) := by decide +kernel
theorem dX13_stays_68 : decode cX13_stays 68 = .ok (.iload_n 2, 1) := by decide +kernel
theorem dX13_stays_69 : decode cX13_stays 69 = .ok (.goto 4, 3) := by decide +kernel
theorem dX13_stays_72 : decode cX13_stays 72 = .ok (.iload_n 3, 1) := by decide +kernel
theorem dX13_stays_73 : decode cX13_stays 73 = .ok (.ireturn, 1) := by decide +kernel
theorem dX13_stays_74 : decode cX13_stays 74 = .ok (.iinc 2 1, 3) := by decide +kernel
theorem dX13_stays_77 : decode cX13_stays 77 = .ok (.goto (-52), 3) := by decide +kernel
theorem dX13_stays_80 : decode cX13_stays 80 = .ok (.iconst (-1), 1) := by decide +kernel
theorem dX13_stays_81 : decode cX13_stays 81 = .ok (.ireturn, 1) := by decide +kernel
theorem dX13_goesByTerm_0 : decode cX13_goesByTerm 0 = .ok (.aload_n 0, 1) := by decide +kernel
theorem dX13_goesByTerm_1 : decode cX13_goesByTerm 1 = .ok (.iconst 0, 1) := by decide +kernel
theorem dX13_goesByTerm_2 : decode cX13_goesByTerm 2 = .ok (.bipush 31, 2) := by decide +kernel
theorem dX13_goesByTerm_4 : decode cX13_goesByTerm 4 = .ok (.invokevirtual 432, 3) := by decide +kernel
theorem dX13_goesByTerm_7 : decode cX13_goesByTerm 7 = .ok (.aload_n 0, 1) := by decide +kernel
theorem dX13_goesByTerm_8 : decode cX13_goesByTerm 8 = .ok (.getfield 108, 3) := by decide +kernel
theorem dX13_goesByTerm_11 : decode cX13_goesByTerm 11 = .ok (.bipush 43, 2) := by decide +kernel
theorem dX13_goesByTerm_13 : decode cX13_goesByTerm 13 = .ok (.iload_n 1, 1) := by decide +kernel
theorem dX13_goesByTerm_14 : decode cX13_goesByTerm 14 = .ok (.iastore, 1) := by decide +kernel
theorem dX13_goesByTerm_15 : decode cX13_goesByTerm 15 = .ok (.aload_n 0, 1) := by decide +kernel
theorem dX13_goesByTerm_16 : decode cX13_goesByTerm 16 = .ok (.bipush 31, 2) := by decide +kernel
theorem dX13_goesByTerm_18 : decode cX13_goesByTerm 18 = .ok (.bipush 30, 2) := by decide +kernel
theorem dX13_goesByTerm_20 : decode cX13_goesByTerm 20 = .ok (.invokevirtual 429, 3) := by decide +kernel
theorem dX13_goesByTerm_23 : decode cX13_goesByTerm 23 = .ok (.return_, 1) := by decide +kernel
theorem dX13_fair_0 : decode cX13_fair 0 = .ok (.aload_n 0, 1) := by decide +kernel
theorem dX13_fair_1 : decode cX13_fair 1 = .ok (.iconst 0, 1) := by decide +kernel
theorem dX13_fair_2 : decode cX13_fair 2 = .ok (.putfield 141, 3) := by decide +kernel
theorem dX13_fair_5 : decode cX13_fair 5 = .ok (.iconst 1, 1) := by decide +kernel
theorem dX13_fair_6 : decode cX13_fair 6 = .ok (.istore_n 1, 1) := by decide +kernel
theorem dX13_fair_7 : decode cX13_fair 7 = .ok (.iload_n 1, 1) := by decide +kernel
theorem dX13_fair_8 : decode cX13_fair 8 = .ok (.iconst 5, 1) := by decide +kernel
theorem dX13_fair_9 : decode cX13_fair 9 = .ok (.if_icmp .gt 33, 3) := by decide +kernel
theorem dX13_fair_12 : decode cX13_fair 12 = .ok (.aload_n 0, 1) := by decide +kernel
theorem dX13_fair_13 : decode cX13_fair 13 = .ok (.iload_n 1, 1) := by decide +kernel
theorem dX13_fair_14 : decode cX13_fair 14 = .ok (.invokevirtual 435, 3) := by decide +kernel
theorem dX13_fair_17 : decode cX13_fair 17 = .ok (.aload_n 0, 1) := by decide +kernel
theorem dX13_fair_18 : decode cX13_fair 18 = .ok (.getfield 108, 3) := by decide +kernel
theorem dX13_fair_21 : decode cX13_fair 21 = .ok (.bipush 40, 2) := by decide +kernel
theorem dX13_fair_23 : decode cX13_fair 23 = .ok (.iaload, 1) := by decide +kernel
theorem dX13_fair_24 : decode cX13_fair 24 = .ok (.aload_n 0, 1) := by decide +kernel
theorem dX13_fair_25 : decode cX13_fair 25 = .ok (.getfield 108, 3) := by decide +kernel
theorem dX13_fair_28 : decode cX13_fair 28 = .ok (.bipush 9, 2) := by decide +kernel
theorem dX13_fair_30 : decode cX13_fair 30 = .ok (.iaload, 1) := by decide +kernel
theorem dX13_fair_31 : decode cX13_fair 31 = .ok (.if_icmp .ne 5, 3) := by decide +kernel
theorem dX13_fair_34 : decode cX13_fair 34 = .ok (.iload_n 1, 1) := by decide +kernel
theorem dX13_fair_35 : decode cX13_fair 35 = .ok (.ireturn, 1) := by decide +kernel
theorem dX13_fair_36 : decode cX13_fair 36 = .ok (.iinc 1 1, 3) := by decide +kernel
theorem dX13_fair_39 : decode cX13_fair 39 = .ok (.goto (-32), 3) := by decide +kernel
theorem dX13_fair_42 : decode cX13_fair 42 = .ok (.iconst (-1), 1) := by decide +kernel
theorem dX13_fair_43 : decode cX13_fair 43 = .ok (.ireturn, 1) := by decide +kernel
theorem dX13_least_0 : decode cX13_least 0 = .ok (.aload_n 0, 1) := by decide +kernel
theorem dX13_least_1 : decode cX13_least 1 = .ok (.iconst 0, 1) := by decide +kernel
theorem dX13_least_2 : decode cX13_least 2 = .ok (.putfield 141, 3) := by decide +kernel
theorem dX13_least_5 : decode cX13_least 5 = .ok (.iconst 0, 1) := by decide +kernel
theorem dX13_least_6 : decode cX13_least 6 = .ok (.istore_n 1, 1) := by decide +kernel
theorem dX13_least_7 : decode cX13_least 7 = .ok (.iconst 0, 1) := by decide +kernel
theorem dX13_least_8 : decode cX13_least 8 = .ok (.istore_n 2, 1) := by decide +kernel
theorem dX13_least_9 : decode cX13_least 9 = .ok (.iconst 1, 1) := by decide +kernel
theorem dX13_least_10 : decode cX13_least 10 = .ok (.istore_n 3, 1) := by decide +kernel
theorem dX13_least_11 : decode cX13_least 11 = .ok (.iload_n 3, 1) := by decide +kernel
theorem dX13_least_12 : decode cX13_least 12 = .ok (.iconst 5, 1) := by decide +kernel
theorem dX13_least_13 : decode cX13_least 13 = .ok (.if_icmp .gt 42, 3) := by decide +kernel
theorem dX13_least_16 : decode cX13_least 16 = .ok (.aload_n 0, 1) := by decide +kernel
theorem dX13_least_17 : decode cX13_least 17 = .ok (.iload_n 3, 1) := by decide +kernel
theorem dX13_least_18 : decode cX13_least 18 = .ok (.invokevirtual 435, 3) := by decide +kernel
theorem dX13_least_21 : decode cX13_least 21 = .ok (.iload_n 1, 1) := by decide +kernel
theorem dX13_least_22 : decode cX13_least 22 = .ok (.ifCond .eq 17, 3) := by decide +kernel
theorem dX13_least_25 : decode cX13_least 25 = .ok (.aload_n 0, 1) := by decide +kernel
theorem dX13_least_26 : decode cX13_least 26 = .ok (.getfield 108, 3) := by decide +kernel
theorem dX13_least_29 : decode cX13_least 29 = .ok (.bipush 39, 2) := by decide +kernel
theorem dX13_least_31 : decode cX13_least 31 = .ok (.iaload, 1) := by decide +kernel
theorem dX13_least_32 : decode cX13_least 32 = .ok (.iload_n 2, 1) := by decide +kernel
theorem dX13_least_33 : decode cX13_least 33 = .ok (.if_icmp .lt 6, 3) := by decide +kernel
theorem dX13_least_36 : decode cX13_least 36 = .ok (.goto 13, 3) := by decide +kernel
theorem dX13_least_39 : decode cX13_least 39 = .ok (.iload_n 3, 1) := by decide +kernel
theorem dX13_least_40 : decode cX13_least 40 = .ok (.istore_n 1, 1) := by decide +kernel
theorem dX13_least_41 : decode cX13_least 41 = .ok (.aload_n 0, 1) := by decide +kernel
theorem dX13_least_42 : decode cX13_least 42 = .ok (.getfield 108, 3) := by decide +kernel
theorem dX13_least_45 : decode cX13_least 45 = .ok (.bipush 39, 2) := by decide +kernel
theorem dX13_least_47 : decode cX13_least 47 = .ok (.iaload, 1) := by decide +kernel
theorem dX13_least_48 : decode cX13_least 48 = .ok (.istore_n 2, 1) := by decide +kernel
theorem dX13_least_49 : decode cX13_least 49 = .ok (.iinc 3 1, 3) := by decide +kernel
theorem dX13_least_52 : decode cX13_least 52 = .ok (.goto (-41), 3) := by decide +kernel
theorem dX13_least_55 : decode cX13_least 55 = .ok (.iload_n 1, 1) := by decide +kernel
theorem dX13_least_56 : decode cX13_least 56 = .ok (.ireturn, 1) := by decide +kernel
theorem dX13_cost_0 : decode cX13_cost 0 = .ok (.aload_n 0, 1) := by decide +kernel
theorem dX13_cost_1 : decode cX13_cost 1 = .ok (.iconst 0, 1) := by decide +kernel
theorem dX13_cost_2 : decode cX13_cost 2 = .ok (.putfield 141, 3) := by decide +kernel
theorem dX13_cost_5 : decode cX13_cost 5 = .ok (.aload_n 0, 1) := by decide +kernel
theorem dX13_cost_6 : decode cX13_cost 6 = .ok (.iload_n 1, 1) := by decide +kernel
theorem dX13_cost_7 : decode cX13_cost 7 = .ok (.iconst 1, 1) := by decide +kernel
theorem dX13_cost_8 : decode cX13_cost 8 = .ok (.bipush 60, 2) := by decide +kernel
theorem dX13_cost_10 : decode cX13_cost 10 = .ok (.invokestatic 407, 3) := by decide +kernel
theorem dX13_cost_13 : decode cX13_cost 13 = .ok (.iconst 1, 1) := by decide +kernel
theorem dX13_cost_14 : decode cX13_cost 14 = .ok (.invokevirtual 326, 3) := by decide +kernel
theorem dX13_cost_17 : decode cX13_cost 17 = .ok (.ifCond .ne 5, 3) := by decide +kernel
theorem dX13_cost_20 : decode cX13_cost 20 = .ok (.iconst 0, 1) := by decide +kernel
theorem dX13_cost_21 : decode cX13_cost 21 = .ok (.ireturn, 1) := by decide +kernel
theorem dX13_cost_22 : decode cX13_cost 22 = .ok (.aload_n 0, 1) := by decide +kernel
theorem dX13_cost_23 : decode cX13_cost 23 = .ok (.iconst 0, 1) := by decide +kernel
theorem dX13_cost_24 : decode cX13_cost 24 = .ok (.bipush 31, 2) := by decide +kernel
theorem dX13_cost_26 : decode cX13_cost 26 = .ok (.invokevirtual 432, 3) := by decide +kernel
theorem dX13_cost_29 : decode cX13_cost 29 = .ok (.aload_n 0, 1) := by decide +kernel
theorem dX13_cost_30 : decode cX13_cost 30 = .ok (.bipush 31, 2) := by decide +kernel
theorem dX13_cost_32 : decode cX13_cost 32 = .ok (.iload_n 1, 1) := by decide +kernel
theorem dX13_cost_33 : decode cX13_cost 33 = .ok (.invokevirtual 429, 3) := by decide +kernel
theorem dX13_cost_36 : decode cX13_cost 36 = .ok (.aload_n 0, 1) := by decide +kernel
theorem dX13_cost_37 : decode cX13_cost 37 = .ok (.getfield 108, 3) := by decide +kernel
theorem dX13_cost_40 : decode cX13_cost 40 = .ok (.bipush 31, 2) := by decide +kernel
theorem dX13_cost_42 : decode cX13_cost 42 = .ok (.iaload, 1) := by decide +kernel
theorem dX13_cost_43 : decode cX13_cost 43 = .ok (.aload_n 0, 1) := by decide +kernel
theorem dX13_cost_44 : decode cX13_cost 44 = .ok (.getfield 108, 3) := by decide +kernel
theorem dX13_cost_47 : decode cX13_cost 47 = .ok (.bipush 33, 2) := by decide +kernel
theorem dX13_cost_49 : decode cX13_cost 49 = .ok (.iaload, 1) := by decide +kernel
theorem dX13_cost_50 : decode cX13_cost 50 = .ok (.isub, 1) := by decide +kernel
theorem dX13_cost_51 : decode cX13_cost 51 = .ok (.istore_n 2, 1) := by decide +kernel
theorem dX13_cost_52 : decode cX13_cost 52 = .ok (.aload_n 0, 1) := by decide +kernel
theorem dX13_cost_53 : decode cX13_cost 53 = .ok (.iconst 0, 1) := by decide +kernel
theorem dX13_cost_54 : decode cX13_cost 54 = .ok (.bipush 31, 2) := by decide +kernel
theorem dX13_cost_56 : decode cX13_cost 56 = .ok (.invokevirtual 432, 3) := by decide +kernel
theorem dX13_cost_59 : decode cX13_cost 59 = .ok (.iconst 0, 1) := by decide +kernel
theorem dX13_cost_60 : decode cX13_cost 60 = .ok (.istore_n 3, 1) := by decide +kernel
theorem dX13_cost_61 : decode cX13_cost 61 = .ok (.iload_n 3, 1) := by decide +kernel
theorem dX13_cost_62 : decode cX13_cost 62 = .ok (.iload_n 1, 1) := by decide +kernel
theorem dX13_cost_63 : decode cX13_cost 63 = .ok (.if_icmp .ge 53, 3) := by decide +kernel
theorem dX13_cost_66 : decode cX13_cost 66 = .ok (.aload_n 0, 1) := by decide +kernel
theorem dX13_cost_67 : decode cX13_cost 67 = .ok (.bipush 31, 2) := by decide +kernel
theorem dX13_cost_69 : decode cX13_cost 69 = .ok (.aload_n 0, 1) := by decide +kernel
theorem dX13_cost_70 : decode cX13_cost 70 = .ok (.aload_n 0, 1) := by decide +kernel
theorem dX13_cost_71 : decode cX13_cost 71 = .ok (.getfield 108, 3) := by decide +kernel
theorem dX13_cost_74 : decode cX13_cost 74 = .ok (.bipush 34, 2) := by decide +kernel
theorem dX13_cost_76 : decode cX13_cost 76 = .ok (.iaload, 1) := by decide +kernel
theorem dX13_cost_77 : decode cX13_cost 77 = .ok (.invokevirtual 387, 3) := by decide +kernel
theorem dX13_cost_80 : decode cX13_cost 80 = .ok (.invokevirtual 390, 3) := by decide +kernel
theorem dX13_cost_83 : decode cX13_cost 83 = .ok (.aload_n 0, 1) := by decide +kernel
theorem dX13_cost_84 : decode cX13_cost 84 = .ok (.bipush 31, 2) := by decide +kernel
theorem dX13_cost_86 : decode cX13_cost 86 = .ok (.aload_n 0, 1) := by decide +kernel
theorem dX13_cost_87 : decode cX13_cost 87 = .ok (.bipush 31, 2) := by decide +kernel
theorem dX13_cost_89 : decode cX13_cost 89 = .ok (.aload_n 0, 1) := by decide +kernel
theorem dX13_cost_90 : decode cX13_cost 90 = .ok (.getfield 108, 3) := by decide +kernel
theorem dX13_cost_93 : decode cX13_cost 93 = .ok (.bipush 35, 2) := by decide +kernel
theorem dX13_cost_95 : decode cX13_cost 95 = .ok (.iaload, 1) := by decide +kernel
theorem dX13_cost_96 : decode cX13_cost 96 = .ok (.invokevirtual 393, 3) := by decide +kernel
theorem dX13_cost_99 : decode cX13_cost 99 = .ok (.invokevirtual 396, 3) := by decide +kernel
theorem dX13_cost_102 : decode cX13_cost 102 = .ok (.pop, 1) := by decide +kernel
theorem dX13_cost_103 : decode cX13_cost 103 = .ok (.aload_n 0, 1) := by decide +kernel
theorem dX13_cost_104 : decode cX13_cost 104 = .ok (.bipush 31, 2) := by decide +kernel
theorem dX13_cost_106 : decode cX13_cost 106 = .ok (.iconst 0, 1) := by decide +kernel
theorem dX13_cost_107 : decode cX13_cost 107 = .ok (.invokevirtual 400, 3) := by decide +kernel
theorem dX13_cost_110 : decode cX13_cost 110 = .ok (.iinc 3 1, 3) := by decide +kernel
theorem dX13_cost_113 : decode cX13_cost 113 = .ok (.goto (-52), 3) := by decide +kernel
theorem dX13_cost_116 : decode cX13_cost 116 = .ok (.aload_n 0, 1) := by decide +kernel
theorem dX13_cost_117 : decode cX13_cost 117 = .ok (.getfield 108, 3) := by decide +kernel
theorem dX13_cost_120 : decode cX13_cost 120 = .ok (.bipush 31, 2) := by decide +kernel
theorem dX13_cost_122 : decode cX13_cost 122 = .ok (.iaload, 1) := by decide +kernel
theorem dX13_cost_123 : decode cX13_cost 123 = .ok (.aload_n 0, 1) := by decide +kernel
theorem dX13_cost_124 : decode cX13_cost 124 = .ok (.getfield 108, 3) := by decide +kernel
theorem dX13_cost_127 : decode cX13_cost 127 = .ok (.bipush 33, 2) := by decide +kernel
theorem dX13_cost_129 : decode cX13_cost 129 = .ok (.iaload, 1) := by decide +kernel
theorem dX13_cost_130 : decode cX13_cost 130 = .ok (.isub, 1) := by decide +kernel
theorem dX13_cost_131 : decode cX13_cost 131 = .ok (.iload_n 2, 1) := by decide +kernel
theorem dX13_cost_132 : decode cX13_cost 132 = .ok (.isub, 1) := by decide +kernel
theorem dX13_cost_133 : decode cX13_cost 133 = .ok (.ireturn, 1) := by decide +kernel
theorem dX13_triesDeed_0 : decode cX13_triesDeed 0 = .ok (.aload_n 0, 1) := by decide +kernel
theorem dX13_triesDeed_1 : decode cX13_triesDeed 1 = .ok (.iload_n 1, 1) := by decide +kernel
theorem dX13_triesDeed_2 : decode cX13_triesDeed 2 = .ok (.iload_n 1, 1) := by decide +kernel
theorem dX13_triesDeed_3 : decode cX13_triesDeed 3 = .ok (.bipush 31, 2) := by decide +kernel
theorem dX13_triesDeed_5 : decode cX13_triesDeed 5 = .ok (.iadd, 1) := by decide +kernel
theorem dX13_triesDeed_6 : decode cX13_triesDeed 6 = .ok (.invokevirtual 432, 3) := by decide +kernel
theorem dX13_triesDeed_9 : decode cX13_triesDeed 9 = .ok (.aload_n 0, 1) := by decide +kernel
theorem dX13_triesDeed_10 : decode cX13_triesDeed 10 = .ok (.iload_n 1, 1) := by decide +kernel
theorem dX13_triesDeed_11 : decode cX13_triesDeed 11 = .ok (.bipush 31, 2) := by decide +kernel
theorem dX13_triesDeed_13 : decode cX13_triesDeed 13 = .ok (.iadd, 1) := by decide +kernel
theorem dX13_triesDeed_14 : decode cX13_triesDeed 14 = .ok (.aload_n 0, 1) := by decide +kernel
theorem dX13_triesDeed_15 : decode cX13_triesDeed 15 = .ok (.aload_n 0, 1) := by decide +kernel
theorem dX13_triesDeed_16 : decode cX13_triesDeed 16 = .ok (.getfield 108, 3) := by decide +kernel
theorem dX13_triesDeed_19 : decode cX13_triesDeed 19 = .ok (.iload_n 1, 1) := by decide +kernel
theorem dX13_triesDeed_20 : decode cX13_triesDeed 20 = .ok (.iconst 3, 1) := by decide +kernel
theorem dX13_triesDeed_21 : decode cX13_triesDeed 21 = .ok (.iadd, 1) := by decide +kernel
theorem dX13_triesDeed_22 : decode cX13_triesDeed 22 = .ok (.iaload, 1) := by decide +kernel
theorem dX13_triesDeed_23 : decode cX13_triesDeed 23 = .ok (.invokevirtual 387, 3) := by decide +kernel
theorem dX13_triesDeed_26 : decode cX13_triesDeed 26 = .ok (.invokevirtual 390, 3) := by decide +kernel
theorem dX13_triesDeed_29 : decode cX13_triesDeed 29 = .ok (.iload_n 2, 1) := by decide +kernel
theorem dX13_triesDeed_30 : decode cX13_triesDeed 30 = .ok (.iconst (-1), 1) := by decide +kernel
theorem dX13_triesDeed_31 : decode cX13_triesDeed 31 = .ok (.if_icmp .eq 25, 3) := by decide +kernel
theorem dX13_triesDeed_34 : decode cX13_triesDeed 34 = .ok (.aload_n 0, 1) := by decide +kernel
theorem dX13_triesDeed_35 : decode cX13_triesDeed 35 = .ok (.getfield 16, 3) := by decide +kernel
theorem dX13_triesDeed_38 : decode cX13_triesDeed 38 = .ok (.iload_n 2, 1) := by decide +kernel
theorem dX13_triesDeed_39 : decode cX13_triesDeed 39 = .ok (.iaload, 1) := by decide +kernel
theorem dX13_triesDeed_40 : decode cX13_triesDeed 40 = .ok (.aload_n 0, 1) := by decide +kernel
theorem dX13_triesDeed_41 : decode cX13_triesDeed 41 = .ok (.getfield 108, 3) := by decide +kernel
theorem dX13_triesDeed_44 : decode cX13_triesDeed 44 = .ok (.iload_n 1, 1) := by decide +kernel
theorem dX13_triesDeed_45 : decode cX13_triesDeed 45 = .ok (.bipush 31, 2) := by decide +kernel
theorem dX13_triesDeed_47 : decode cX13_triesDeed 47 = .ok (.iadd, 1) := by decide +kernel
theorem dX13_triesDeed_48 : decode cX13_triesDeed 48 = .ok (.iconst 0, 1) := by decide +kernel
theorem dX13_triesDeed_49 : decode cX13_triesDeed 49 = .ok (.iadd, 1) := by decide +kernel
theorem dX13_triesDeed_50 : decode cX13_triesDeed 50 = .ok (.iaload, 1) := by decide +kernel
theorem dX13_triesDeed_51 : decode cX13_triesDeed 51 = .ok (.if_icmp .le 5, 3) := by decide +kernel
theorem dX13_triesDeed_54 : decode cX13_triesDeed 54 = .ok (.iconst 0, 1) := by decide +kernel
theorem dX13_triesDeed_55 : decode cX13_triesDeed 55 = .ok (.ireturn, 1) := by decide +kernel
theorem dX13_triesDeed_56 : decode cX13_triesDeed 56 = .ok (.aload_n 0, 1) := by decide +kernel
theorem dX13_triesDeed_57 : decode cX13_triesDeed 57 = .ok (.iload_n 1, 1) := by decide +kernel
theorem dX13_triesDeed_58 : decode cX13_triesDeed 58 = .ok (.bipush 31, 2) := by decide +kernel
theorem dX13_triesDeed_60 : decode cX13_triesDeed 60 = .ok (.iadd, 1) := by decide +kernel
theorem dX13_triesDeed_61 : decode cX13_triesDeed 61 = .ok (.iload_n 2, 1) := by decide +kernel
theorem dX13_triesDeed_62 : decode cX13_triesDeed 62 = .ok (.invokevirtual 396, 3) := by decide +kernel
theorem dX13_triesDeed_65 : decode cX13_triesDeed 65 = .ok (.pop, 1) := by decide +kernel
theorem dX13_triesDeed_66 : decode cX13_triesDeed 66 = .ok (.aload_n 0, 1) := by decide +kernel
theorem dX13_triesDeed_67 : decode cX13_triesDeed 67 = .ok (.iload_n 1, 1) := by decide +kernel
theorem dX13_triesDeed_68 : decode cX13_triesDeed 68 = .ok (.bipush 31, 2) := by decide +kernel
theorem dX13_triesDeed_70 : decode cX13_triesDeed 70 = .ok (.iadd, 1) := by decide +kernel
theorem dX13_triesDeed_71 : decode cX13_triesDeed 71 = .ok (.iconst 1, 1) := by decide +kernel
theorem dX13_triesDeed_72 : decode cX13_triesDeed 72 = .ok (.invokevirtual 400, 3) := by decide +kernel
theorem dX13_triesDeed_75 : decode cX13_triesDeed 75 = .ok (.iconst 1, 1) := by decide +kernel
theorem dX13_triesDeed_76 : decode cX13_triesDeed 76 = .ok (.ireturn, 1) := by decide +kernel
theorem dX13_ahead0_0 : decode cX13_ahead0 0 = .ok (.aload_n 0, 1) := by decide +kernel
theorem dX13_ahead0_1 : decode cX13_ahead0 1 = .ok (.getfield 108, 3) := by decide +kernel
theorem dX13_ahead0_4 : decode cX13_ahead0 4 = .ok (.iload_n 1, 1) := by decide +kernel
theorem dX13_ahead0_5 : decode cX13_ahead0 5 = .ok (.bipush 6, 2) := by decide +kernel
theorem dX13_ahead0_7 : decode cX13_ahead0 7 = .ok (.iadd, 1) := by decide +kernel
theorem dX13_ahead0_8 : decode cX13_ahead0 8 = .ok (.iload_n 2, 1) := by decide +kernel
theorem dX13_ahead0_9 : decode cX13_ahead0 9 = .ok (.iadd, 1) := by decide +kernel
theorem dX13_ahead0_10 : decode cX13_ahead0 10 = .ok (.iaload, 1) := by decide +kernel
theorem dX13_ahead0_11 : decode cX13_ahead0 11 = .ok (.aload_n 0, 1) := by decide +kernel
theorem dX13_ahead0_12 : decode cX13_ahead0 12 = .ok (.getfield 108, 3) := by decide +kernel
theorem dX13_ahead0_15 : decode cX13_ahead0 15 = .ok (.iload_n 1, 1) := by decide +kernel
theorem dX13_ahead0_16 : decode cX13_ahead0 16 = .ok (.bipush 6, 2) := by decide +kernel
theorem dX13_ahead0_18 : decode cX13_ahead0 18 = .ok (.iadd, 1) := by decide +kernel
theorem dX13_ahead0_19 : decode cX13_ahead0 19 = .ok (.iconst 1, 1) := by decide +kernel
theorem dX13_ahead0_20 : decode cX13_ahead0 20 = .ok (.iadd, 1) := by decide +kernel
theorem dX13_ahead0_21 : decode cX13_ahead0 21 = .ok (.iload_n 2, 1) := by decide +kernel
theorem dX13_ahead0_22 : decode cX13_ahead0 22 = .ok (.isub, 1) := by decide +kernel
theorem dX13_ahead0_23 : decode cX13_ahead0 23 = .ok (.iaload, 1) := by decide +kernel
theorem dX13_ahead0_24 : decode cX13_ahead0 24 = .ok (.isub, 1) := by decide +kernel
theorem dX13_ahead0_25 : decode cX13_ahead0 25 = .ok (.ireturn, 1) := by decide +kernel
theorem dX13_planOne_0 : decode cX13_planOne 0 = .ok (.iconst 0, 1) := by decide +kernel
theorem dX13_planOne_1 : decode cX13_planOne 1 = .ok (.istore_n 3, 1) := by decide +kernel
theorem dX13_planOne_2 : decode cX13_planOne 2 = .ok (.bipush (-2), 2) := by decide +kernel
theorem dX13_planOne_4 : decode cX13_planOne 4 = .ok (.istore 4, 2) := by decide +kernel
theorem dX13_planOne_6 : decode cX13_planOne 6 = .ok (.iconst 0, 1) := by decide +kernel
theorem dX13_planOne_7 : decode cX13_planOne 7 = .ok (.istore 5, 2) := by decide +kernel
theorem dX13_planOne_9 : decode cX13_planOne 9 = .ok (.iload 5, 2) := by decide +kernel
theorem dX13_planOne_11 : decode cX13_planOne 11 = .ok (.aload_n 0, 1) := by decide +kernel
theorem dX13_planOne_12 : decode cX13_planOne 12 = .ok (.getfield 333, 3) := by decide +kernel
theorem dX13_planOne_15 : decode cX13_planOne 15 = .ok (.if_icmp .gt 94, 3) := by decide +kernel
theorem dX13_planOne_18 : decode cX13_planOne 18 = .ok (.iload 5, 2) := by decide +kernel
theorem dX13_planOne_20 : decode cX13_planOne 20 = .ok (.aload_n 0, 1) := by decide +kernel
theorem dX13_planOne_21 : decode cX13_planOne 21 = .ok (.getfield 333, 3) := by decide +kernel
theorem dX13_planOne_24 : decode cX13_planOne 24 = .ok (.if_icmp .ne 7, 3) := by decide +kernel
theorem dX13_planOne_27 : decode cX13_planOne 27 = .ok (.iconst (-1), 1) := by decide +kernel
theorem dX13_planOne_28 : decode cX13_planOne 28 = .ok (.goto 5, 3) := by decide +kernel
theorem dX13_planOne_31 : decode cX13_planOne 31 = .ok (.iload 5, 2) := by decide +kernel
theorem dX13_planOne_33 : decode cX13_planOne 33 = .ok (.istore 6, 2) := by decide +kernel
theorem dX13_planOne_35 : decode cX13_planOne 35 = .ok (.aload_n 0, 1) := by decide +kernel
theorem dX13_planOne_36 : decode cX13_planOne 36 = .ok (.iload_n 1, 1) := by decide +kernel
theorem dX13_planOne_37 : decode cX13_planOne 37 = .ok (.iload 6, 2) := by decide +kernel
theorem dX13_planOne_39 : decode cX13_planOne 39 = .ok (.invokevirtual 438, 3) := by decide +kernel
theorem dX13_planOne_42 : decode cX13_planOne 42 = .ok (.ifCond .ne 6, 3) := by decide +kernel
theorem dX13_planOne_45 : decode cX13_planOne 45 = .ok (.goto 58, 3) := by decide +kernel
theorem dX13_planOne_48 : decode cX13_planOne 48 = .ok (.aload_n 0, 1) := by decide +kernel
theorem dX13_planOne_49 : decode cX13_planOne 49 = .ok (.iload_n 1, 1) := by decide +kernel
theorem dX13_planOne_50 : decode cX13_planOne 50 = .ok (.bipush 31, 2) := by decide +kernel
theorem dX13_planOne_52 : decode cX13_planOne 52 = .ok (.iadd, 1) := by decide +kernel
theorem dX13_planOne_53 : decode cX13_planOne 53 = .ok (.iload_n 2, 1) := by decide +kernel
theorem dX13_planOne_54 : decode cX13_planOne 54 = .ok (.invokevirtual 441, 3) := by decide +kernel
theorem dX13_planOne_57 : decode cX13_planOne 57 = .ok (.istore 7, 2) := by decide +kernel
theorem dX13_planOne_59 : decode cX13_planOne 59 = .ok (.iload 4, 2) := by decide +kernel
theorem dX13_planOne_61 : decode cX13_planOne 61 = .ok (.bipush (-2), 2) := by decide +kernel
theorem dX13_planOne_63 : decode cX13_planOne 63 = .ok (.if_icmp .eq 33, 3) := by decide +kernel
theorem dX13_planOne_66 : decode cX13_planOne 66 = .ok (.aload_n 0, 1) := by decide +kernel
theorem dX13_planOne_67 : decode cX13_planOne 67 = .ok (.getfield 108, 3) := by decide +kernel
theorem dX13_planOne_70 : decode cX13_planOne 70 = .ok (.iload_n 1, 1) := by decide +kernel
theorem dX13_planOne_71 : decode cX13_planOne 71 = .ok (.iconst 4, 1) := by decide +kernel
theorem dX13_planOne_72 : decode cX13_planOne 72 = .ok (.iadd, 1) := by decide +kernel
theorem dX13_planOne_73 : decode cX13_planOne 73 = .ok (.iaload, 1) := by decide +kernel
theorem dX13_planOne_74 : decode cX13_planOne 74 = .ok (.iload_n 2, 1) := by decide +kernel
theorem dX13_planOne_75 : decode cX13_planOne 75 = .ok (.if_icmp .ne 12, 3) := by decide +kernel
theorem dX13_planOne_78 : decode cX13_planOne 78 = .ok (.iload 7, 2) := by decide +kernel
theorem dX13_planOne_80 : decode cX13_planOne 80 = .ok (.iload_n 3, 1) := by decide +kernel
theorem dX13_planOne_81 : decode cX13_planOne 81 = .ok (.if_icmp .gt 15, 3) := by decide +kernel
theorem dX13_planOne_84 : decode cX13_planOne 84 = .ok (.goto 19, 3) := by decide +kernel
theorem dX13_planOne_87 : decode cX13_planOne 87 = .ok (.iload 7, 2) := by decide +kernel
theorem dX13_planOne_89 : decode cX13_planOne 89 = .ok (.iload_n 3, 1) := by decide +kernel
theorem dX13_planOne_90 : decode cX13_planOne 90 = .ok (.if_icmp .lt 6, 3) := by decide +kernel
theorem dX13_planOne_93 : decode cX13_planOne 93 = .ok (.goto 10, 3) := by decide +kernel
theorem dX13_planOne_96 : decode cX13_planOne 96 = .ok (.iload 7, 2) := by decide +kernel
theorem dX13_planOne_98 : decode cX13_planOne 98 = .ok (.istore_n 3, 1) := by decide +kernel
theorem dX13_planOne_99 : decode cX13_planOne 99 = .ok (.iload 6, 2) := by decide +kernel
theorem dX13_planOne_101 : decode cX13_planOne 101 = .ok (.istore 4, 2) := by decide +kernel
theorem dX13_planOne_103 : decode cX13_planOne 103 = .ok (.iinc 5 1, 3) := by decide +kernel
theorem dX13_planOne_106 : decode cX13_planOne 106 = .ok (.goto (-97), 3) := by decide +kernel
theorem dX13_planOne_109 : decode cX13_planOne 109 = .ok (.aload_n 0, 1) := by decide +kernel
theorem dX13_planOne_110 : decode cX13_planOne 110 = .ok (.iload 4, 2) := by decide +kernel
theorem dX13_planOne_112 : decode cX13_planOne 112 = .ok (.putfield 444, 3) := by decide +kernel
theorem dX13_planOne_115 : decode cX13_planOne 115 = .ok (.iload_n 3, 1) := by decide +kernel
theorem dX13_planOne_116 : decode cX13_planOne 116 = .ok (.ireturn, 1) := by decide +kernel
theorem dX13_planTwo_0 : decode cX13_planTwo 0 = .ok (.iconst 0, 1) := by decide +kernel
theorem dX13_planTwo_1 : decode cX13_planTwo 1 = .ok (.istore_n 3, 1) := by decide +kernel
theorem dX13_planTwo_2 : decode cX13_planTwo 2 = .ok (.bipush (-2), 2) := by decide +kernel
theorem dX13_planTwo_4 : decode cX13_planTwo 4 = .ok (.istore 4, 2) := by decide +kernel
theorem dX13_planTwo_6 : decode cX13_planTwo 6 = .ok (.iconst 0, 1) := by decide +kernel
theorem dX13_planTwo_7 : decode cX13_planTwo 7 = .ok (.istore 5, 2) := by decide +kernel
theorem dX13_planTwo_9 : decode cX13_planTwo 9 = .ok (.iload 5, 2) := by decide +kernel
theorem dX13_planTwo_11 : decode cX13_planTwo 11 = .ok (.aload_n 0, 1) := by decide +kernel
theorem dX13_planTwo_12 : decode cX13_planTwo 12 = .ok (.getfield 333, 3) := by decide +kernel
theorem dX13_planTwo_15 : decode cX13_planTwo 15 = .ok (.if_icmp .gt 94, 3) := by decide +kernel
theorem dX13_planTwo_18 : decode cX13_planTwo 18 = .ok (.iload 5, 2) := by decide +kernel
theorem dX13_planTwo_20 : decode cX13_planTwo 20 = .ok (.aload_n 0, 1) := by decide +kernel
theorem dX13_planTwo_21 : decode cX13_planTwo 21 = .ok (.getfield 333, 3) := by decide +kernel
theorem dX13_planTwo_24 : decode cX13_planTwo 24 = .ok (.if_icmp .ne 7, 3) := by decide +kernel
theorem dX13_planTwo_27 : decode cX13_planTwo 27 = .ok (.iconst (-1), 1) := by decide +kernel
theorem dX13_planTwo_28 : decode cX13_planTwo 28 = .ok (.goto 5, 3) := by decide +kernel
theorem dX13_planTwo_31 : decode cX13_planTwo 31 = .ok (.iload 5, 2) := by decide +kernel
theorem dX13_planTwo_33 : decode cX13_planTwo 33 = .ok (.istore 6, 2) := by decide +kernel
theorem dX13_planTwo_35 : decode cX13_planTwo 35 = .ok (.aload_n 0, 1) := by decide +kernel
theorem dX13_planTwo_36 : decode cX13_planTwo 36 = .ok (.iload_n 1, 1) := by decide +kernel
theorem dX13_planTwo_37 : decode cX13_planTwo 37 = .ok (.iload 6, 2) := by decide +kernel
theorem dX13_planTwo_39 : decode cX13_planTwo 39 = .ok (.invokevirtual 438, 3) := by decide +kernel
theorem dX13_planTwo_42 : decode cX13_planTwo 42 = .ok (.ifCond .ne 6, 3) := by decide +kernel
theorem dX13_planTwo_45 : decode cX13_planTwo 45 = .ok (.goto 58, 3) := by decide +kernel
theorem dX13_planTwo_48 : decode cX13_planTwo 48 = .ok (.aload_n 0, 1) := by decide +kernel
theorem dX13_planTwo_49 : decode cX13_planTwo 49 = .ok (.iload_n 1, 1) := by decide +kernel
theorem dX13_planTwo_50 : decode cX13_planTwo 50 = .ok (.bipush 31, 2) := by decide +kernel
theorem dX13_planTwo_52 : decode cX13_planTwo 52 = .ok (.iadd, 1) := by decide +kernel
theorem dX13_planTwo_53 : decode cX13_planTwo 53 = .ok (.iload_n 2, 1) := by decide +kernel
theorem dX13_planTwo_54 : decode cX13_planTwo 54 = .ok (.invokevirtual 447, 3) := by decide +kernel
theorem dX13_planTwo_57 : decode cX13_planTwo 57 = .ok (.istore 7, 2) := by decide +kernel
theorem dX13_planTwo_59 : decode cX13_planTwo 59 = .ok (.iload 4, 2) := by decide +kernel
theorem dX13_planTwo_61 : decode cX13_planTwo 61 = .ok (.bipush (-2), 2) := by decide +kernel
theorem dX13_planTwo_63 : decode cX13_planTwo 63 = .ok (.if_icmp .eq 33, 3) := by decide +kernel
theorem dX13_planTwo_66 : decode cX13_planTwo 66 = .ok (.aload_n 0, 1) := by decide +kernel
theorem dX13_planTwo_67 : decode cX13_planTwo 67 = .ok (.getfield 108, 3) := by decide +kernel
theorem dX13_planTwo_70 : decode cX13_planTwo 70 = .ok (.iload_n 1, 1) := by decide +kernel
theorem dX13_planTwo_71 : decode cX13_planTwo 71 = .ok (.iconst 4, 1) := by decide +kernel
theorem dX13_planTwo_72 : decode cX13_planTwo 72 = .ok (.iadd, 1) := by decide +kernel
theorem dX13_planTwo_73 : decode cX13_planTwo 73 = .ok (.iaload, 1) := by decide +kernel
theorem dX13_planTwo_74 : decode cX13_planTwo 74 = .ok (.iload_n 2, 1) := by decide +kernel
theorem dX13_planTwo_75 : decode cX13_planTwo 75 = .ok (.if_icmp .ne 12, 3) := by decide +kernel
theorem dX13_planTwo_78 : decode cX13_planTwo 78 = .ok (.iload 7, 2) := by decide +kernel
theorem dX13_planTwo_80 : decode cX13_planTwo 80 = .ok (.iload_n 3, 1) := by decide +kernel
theorem dX13_planTwo_81 : decode cX13_planTwo 81 = .ok (.if_icmp .gt 15, 3) := by decide +kernel
theorem dX13_planTwo_84 : decode cX13_planTwo 84 = .ok (.goto 19, 3) := by decide +kernel
theorem dX13_planTwo_87 : decode cX13_planTwo 87 = .ok (.iload 7, 2) := by decide +kernel
theorem dX13_planTwo_89 : decode cX13_planTwo 89 = .ok (.iload_n 3, 1) := by decide +kernel
theorem dX13_planTwo_90 : decode cX13_planTwo 90 = .ok (.if_icmp .lt 6, 3) := by decide +kernel
theorem dX13_planTwo_93 : decode cX13_planTwo 93 = .ok (.goto 10, 3) := by decide +kernel
theorem dX13_planTwo_96 : decode cX13_planTwo 96 = .ok (.iload 7, 2) := by decide +kernel
theorem dX13_planTwo_98 : decode cX13_planTwo 98 = .ok (.istore_n 3, 1) := by decide +kernel
theorem dX13_planTwo_99 : decode cX13_planTwo 99 = .ok (.iload 6, 2) := by decide +kernel
theorem dX13_planTwo_101 : decode cX13_planTwo 101 = .ok (.istore 4, 2) := by decide +kernel
theorem dX13_planTwo_103 : decode cX13_planTwo 103 = .ok (.iinc 5 1, 3) := by decide +kernel
theorem dX13_planTwo_106 : decode cX13_planTwo 106 = .ok (.goto (-97), 3) := by decide +kernel
theorem dX13_planTwo_109 : decode cX13_planTwo 109 = .ok (.aload_n 0, 1) := by decide +kernel
theorem dX13_planTwo_110 : decode cX13_planTwo 110 = .ok (.iload 4, 2) := by decide +kernel
theorem dX13_planTwo_112 : decode cX13_planTwo 112 = .ok (.putfield 444, 3) := by decide +kernel
theorem dX13_planTwo_115 : decode cX13_planTwo 115 = .ok (.iload_n 3, 1) := by decide +kernel
theorem dX13_planTwo_116 : decode cX13_planTwo 116 = .ok (.ireturn, 1) := by decide +kernel
theorem dX13_planThree_0 : decode cX13_planThree 0 = .ok (.iconst 0, 1) := by decide +kernel
theorem dX13_planThree_1 : decode cX13_planThree 1 = .ok (.istore_n 3, 1) := by decide +kernel
theorem dX13_planThree_2 : decode cX13_planThree 2 = .ok (.bipush (-2), 2) := by decide +kernel
theorem dX13_planThree_4 : decode cX13_planThree 4 = .ok (.istore 4, 2) := by decide +kernel
theorem dX13_planThree_6 : decode cX13_planThree 6 = .ok (.iconst 0, 1) := by decide +kernel
theorem dX13_planThree_7 : decode cX13_planThree 7 = .ok (.istore 5, 2) := by decide +kernel
theorem dX13_planThree_9 : decode cX13_planThree 9 = .ok (.iload 5, 2) := by decide +kernel
theorem dX13_planThree_11 : decode cX13_planThree 11 = .ok (.aload_n 0, 1) := by decide +kernel
theorem dX13_planThree_12 : decode cX13_planThree 12 = .ok (.getfield 333, 3) := by decide +kernel
theorem dX13_planThree_15 : decode cX13_planThree 15 = .ok (.if_icmp .gt 94, 3) := by decide +kernel
theorem dX13_planThree_18 : decode cX13_planThree 18 = .ok (.iload 5, 2) := by decide +kernel
theorem dX13_planThree_20 : decode cX13_planThree 20 = .ok (.aload_n 0, 1) := by decide +kernel
theorem dX13_planThree_21 : decode cX13_planThree 21 = .ok (.getfield 333, 3) := by decide +kernel
theorem dX13_planThree_24 : decode cX13_planThree 24 = .ok (.if_icmp .ne 7, 3) := by decide +kernel
theorem dX13_planThree_27 : decode cX13_planThree 27 = .ok (.iconst (-1), 1) := by decide +kernel
theorem dX13_planThree_28 : decode cX13_planThree 28 = .ok (.goto 5, 3) := by decide +kernel
theorem dX13_planThree_31 : decode cX13_planThree 31 = .ok (.iload 5, 2) := by decide +kernel
theorem dX13_planThree_33 : decode cX13_planThree 33 = .ok (.istore 6, 2) := by decide +kernel
theorem dX13_planThree_35 : decode cX13_planThree 35 = .ok (.aload_n 0, 1) := by decide +kernel
theorem dX13_planThree_36 : decode cX13_planThree 36 = .ok (.iload_n 1, 1) := by decide +kernel
theorem dX13_planThree_37 : decode cX13_planThree 37 = .ok (.iload 6, 2) := by decide +kernel
theorem dX13_planThree_39 : decode cX13_planThree 39 = .ok (.invokevirtual 438, 3) := by decide +kernel
theorem dX13_planThree_42 : decode cX13_planThree 42 = .ok (.ifCond .ne 6, 3) := by decide +kernel
theorem dX13_planThree_45 : decode cX13_planThree 45 = .ok (.goto 58, 3) := by decide +kernel
theorem dX13_planThree_48 : decode cX13_planThree 48 = .ok (.aload_n 0, 1) := by decide +kernel
theorem dX13_planThree_49 : decode cX13_planThree 49 = .ok (.iload_n 1, 1) := by decide +kernel
theorem dX13_planThree_50 : decode cX13_planThree 50 = .ok (.bipush 31, 2) := by decide +kernel
theorem dX13_planThree_52 : decode cX13_planThree 52 = .ok (.iadd, 1) := by decide +kernel
theorem dX13_planThree_53 : decode cX13_planThree 53 = .ok (.iload_n 2, 1) := by decide +kernel
theorem dX13_planThree_54 : decode cX13_planThree 54 = .ok (.invokevirtual 450, 3) := by decide +kernel
theorem dX13_planThree_57 : decode cX13_planThree 57 = .ok (.istore 7, 2) := by decide +kernel
theorem dX13_planThree_59 : decode cX13_planThree 59 = .ok (.iload 4, 2) := by decide +kernel
theorem dX13_planThree_61 : decode cX13_planThree 61 = .ok (.bipush (-2), 2) := by decide +kernel
theorem dX13_planThree_63 : decode cX13_planThree 63 = .ok (.if_icmp .eq 33, 3) := by decide +kernel
theorem dX13_planThree_66 : decode cX13_planThree 66 = .ok (.aload_n 0, 1) := by decide +kernel
theorem dX13_planThree_67 : decode cX13_planThree 67 = .ok (.getfield 108, 3) := by decide +kernel
theorem dX13_planThree_70 : decode cX13_planThree 70 = .ok (.iload_n 1, 1) := by decide +kernel
theorem dX13_planThree_71 : decode cX13_planThree 71 = .ok (.iconst 4, 1) := by decide +kernel
theorem dX13_planThree_72 : decode cX13_planThree 72 = .ok (.iadd, 1) := by decide +kernel
theorem dX13_planThree_73 : decode cX13_planThree 73 = .ok (.iaload, 1) := by decide +kernel
theorem dX13_planThree_74 : decode cX13_planThree 74 = .ok (.iload_n 2, 1) := by decide +kernel
theorem dX13_planThree_75 : decode cX13_planThree 75 = .ok (.if_icmp .ne 12, 3) := by decide +kernel
theorem dX13_planThree_78 : decode cX13_planThree 78 = .ok (.iload 7, 2) := by decide +kernel
theorem dX13_planThree_80 : decode cX13_planThree 80 = .ok (.iload_n 3, 1) := by decide +kernel
theorem dX13_planThree_81 : decode cX13_planThree 81 = .ok (.if_icmp .gt 15, 3) := by decide +kernel
theorem dX13_planThree_84 : decode cX13_planThree 84 = .ok (.goto 19, 3) := by decide +kernel
theorem dX13_planThree_87 : decode cX13_planThree 87 = .ok (.iload 7, 2) := by decide +kernel
theorem dX13_planThree_89 : decode cX13_planThree 89 = .ok (.iload_n 3, 1) := by decide +kernel
theorem dX13_planThree_90 : decode cX13_planThree 90 = .ok (.if_icmp .lt 6, 3) := by decide +kernel
theorem dX13_planThree_93 : decode cX13_planThree 93 = .ok (.goto 10, 3) := by decide +kernel
theorem dX13_planThree_96 : decode cX13_planThree 96 = .ok (.iload 7, 2) := by decide +kernel
theorem dX13_planThree_98 : decode cX13_planThree 98 = .ok (.istore_n 3, 1) := by decide +kernel
theorem dX13_planThree_99 : decode cX13_planThree 99 = .ok (.iload 6, 2) := by decide +kernel
theorem dX13_planThree_101 : decode cX13_planThree 101 = .ok (.istore 4, 2) := by decide +kernel
theorem dX13_planThree_103 : decode cX13_planThree 103 = .ok (.iinc 5 1, 3) := by decide +kernel
theorem dX13_planThree_106 : decode cX13_planThree 106 = .ok (.goto (-97), 3) := by decide +kernel
theorem dX13_planThree_109 : decode cX13_planThree 109 = .ok (.aload_n 0, 1) := by decide +kernel
theorem dX13_planThree_110 : decode cX13_planThree 110 = .ok (.iload 4, 2) := by decide +kernel
theorem dX13_planThree_112 : decode cX13_planThree 112 = .ok (.putfield 444, 3) := by decide +kernel
theorem dX13_planThree_115 : decode cX13_planThree 115 = .ok (.iload_n 3, 1) := by decide +kernel
theorem dX13_planThree_116 : decode cX13_planThree 116 = .ok (.ireturn, 1) := by decide +kernel
theorem dX13_planFour_0 : decode cX13_planFour 0 = .ok (.iconst 0, 1) := by decide +kernel
theorem dX13_planFour_1 : decode cX13_planFour 1 = .ok (.istore_n 3, 1) := by decide +kernel
theorem dX13_planFour_2 : decode cX13_planFour 2 = .ok (.bipush (-2), 2) := by decide +kernel
theorem dX13_planFour_4 : decode cX13_planFour 4 = .ok (.istore 4, 2) := by decide +kernel
theorem dX13_planFour_6 : decode cX13_planFour 6 = .ok (.iconst 0, 1) := by decide +kernel
theorem dX13_planFour_7 : decode cX13_planFour 7 = .ok (.istore 5, 2) := by decide +kernel
theorem dX13_planFour_9 : decode cX13_planFour 9 = .ok (.iload 5, 2) := by decide +kernel
theorem dX13_planFour_11 : decode cX13_planFour 11 = .ok (.aload_n 0, 1) := by decide +kernel
theorem dX13_planFour_12 : decode cX13_planFour 12 = .ok (.getfield 333, 3) := by decide +kernel
theorem dX13_planFour_15 : decode cX13_planFour 15 = .ok (.if_icmp .gt 94, 3) := by decide +kernel
theorem dX13_planFour_18 : decode cX13_planFour 18 = .ok (.iload 5, 2) := by decide +kernel
theorem dX13_planFour_20 : decode cX13_planFour 20 = .ok (.aload_n 0, 1) := by decide +kernel
theorem dX13_planFour_21 : decode cX13_planFour 21 = .ok (.getfield 333, 3) := by decide +kernel
theorem dX13_planFour_24 : decode cX13_planFour 24 = .ok (.if_icmp .ne 7, 3) := by decide +kernel
theorem dX13_planFour_27 : decode cX13_planFour 27 = .ok (.iconst (-1), 1) := by decide +kernel
theorem dX13_planFour_28 : decode cX13_planFour 28 = .ok (.goto 5, 3) := by decide +kernel
theorem dX13_planFour_31 : decode cX13_planFour 31 = .ok (.iload 5, 2) := by decide +kernel
theorem dX13_planFour_33 : decode cX13_planFour 33 = .ok (.istore 6, 2) := by decide +kernel
theorem dX13_planFour_35 : decode cX13_planFour 35 = .ok (.aload_n 0, 1) := by decide +kernel
theorem dX13_planFour_36 : decode cX13_planFour 36 = .ok (.iload_n 1, 1) := by decide +kernel
theorem dX13_planFour_37 : decode cX13_planFour 37 = .ok (.iload 6, 2) := by decide +kernel
theorem dX13_planFour_39 : decode cX13_planFour 39 = .ok (.invokevirtual 438, 3) := by decide +kernel
theorem dX13_planFour_42 : decode cX13_planFour 42 = .ok (.ifCond .ne 6, 3) := by decide +kernel
theorem dX13_planFour_45 : decode cX13_planFour 45 = .ok (.goto 58, 3) := by decide +kernel
theorem dX13_planFour_48 : decode cX13_planFour 48 = .ok (.aload_n 0, 1) := by decide +kernel
theorem dX13_planFour_49 : decode cX13_planFour 49 = .ok (.iload_n 1, 1) := by decide +kernel
theorem dX13_planFour_50 : decode cX13_planFour 50 = .ok (.bipush 31, 2) := by decide +kernel
theorem dX13_planFour_52 : decode cX13_planFour 52 = .ok (.iadd, 1) := by decide +kernel
theorem dX13_planFour_53 : decode cX13_planFour 53 = .ok (.iload_n 2, 1) := by decide +kernel
theorem dX13_planFour_54 : decode cX13_planFour 54 = .ok (.invokevirtual 453, 3) := by decide +kernel
theorem dX13_planFour_57 : decode cX13_planFour 57 = .ok (.istore 7, 2) := by decide +kernel
theorem dX13_planFour_59 : decode cX13_planFour 59 = .ok (.iload 4, 2) := by decide +kernel
theorem dX13_planFour_61 : decode cX13_planFour 61 = .ok (.bipush (-2), 2) := by decide +kernel
theorem dX13_planFour_63 : decode cX13_planFour 63 = .ok (.if_icmp .eq 33, 3) := by decide +kernel
theorem dX13_planFour_66 : decode cX13_planFour 66 = .ok (.aload_n 0, 1) := by decide +kernel
theorem dX13_planFour_67 : decode cX13_planFour 67 = .ok (.getfield 108, 3) := by decide +kernel
theorem dX13_planFour_70 : decode cX13_planFour 70 = .ok (.iload_n 1, 1) := by decide +kernel
theorem dX13_planFour_71 : decode cX13_planFour 71 = .ok (.iconst 4, 1) := by decide +kernel
theorem dX13_planFour_72 : decode cX13_planFour 72 = .ok (.iadd, 1) := by decide +kernel
theorem dX13_planFour_73 : decode cX13_planFour 73 = .ok (.iaload, 1) := by decide +kernel
theorem dX13_planFour_74 : decode cX13_planFour 74 = .ok (.iload_n 2, 1) := by decide +kernel
theorem dX13_planFour_75 : decode cX13_planFour 75 = .ok (.if_icmp .ne 12, 3) := by decide +kernel
theorem dX13_planFour_78 : decode cX13_planFour 78 = .ok (.iload 7, 2) := by decide +kernel
theorem dX13_planFour_80 : decode cX13_planFour 80 = .ok (.iload_n 3, 1) := by decide +kernel
theorem dX13_planFour_81 : decode cX13_planFour 81 = .ok (.if_icmp .gt 15, 3) := by decide +kernel
theorem dX13_planFour_84 : decode cX13_planFour 84 = .ok (.goto 19, 3) := by decide +kernel
theorem dX13_planFour_87 : decode cX13_planFour 87 = .ok (.iload 7, 2) := by decide +kernel
theorem dX13_planFour_89 : decode cX13_planFour 89 = .ok (.iload_n 3, 1) := by decide +kernel
theorem dX13_planFour_90 : decode cX13_planFour 90 = .ok (.if_icmp .lt 6, 3) := by decide +kernel
theorem dX13_planFour_93 : decode cX13_planFour 93 = .ok (.goto 10, 3) := by decide +kernel
theorem dX13_planFour_96 : decode cX13_planFour 96 = .ok (.iload 7, 2) := by decide +kernel
theorem dX13_planFour_98 : decode cX13_planFour 98 = .ok (.istore_n 3, 1) := by decide +kernel
theorem dX13_planFour_99 : decode cX13_planFour 99 = .ok (.iload 6, 2) := by decide +kernel
theorem dX13_planFour_101 : decode cX13_planFour 101 = .ok (.istore 4, 2) := by decide +kernel
theorem dX13_planFour_103 : decode cX13_planFour 103 = .ok (.iinc 5 1, 3) := by decide +kernel
theorem dX13_planFour_106 : decode cX13_planFour 106 = .ok (.goto (-97), 3) := by decide +kernel
theorem dX13_planFour_109 : decode cX13_planFour 109 = .ok (.aload_n 0, 1) := by decide +kernel
theorem dX13_planFour_110 : decode cX13_planFour 110 = .ok (.iload 4, 2) := by decide +kernel
theorem dX13_planFour_112 : decode cX13_planFour 112 = .ok (.putfield 444, 3) := by decide +kernel
theorem dX13_planFour_115 : decode cX13_planFour 115 = .ok (.iload_n 3, 1) := by decide +kernel
theorem dX13_planFour_116 : decode cX13_planFour 116 = .ok (.ireturn, 1) := by decide +kernel
theorem dX13_plan_0 : decode cX13_plan 0 = .ok (.aload_n 0, 1) := by decide +kernel
theorem dX13_plan_1 : decode cX13_plan 1 = .ok (.iconst 0, 1) := by decide +kernel
theorem dX13_plan_2 : decode cX13_plan 2 = .ok (.putfield 141, 3) := by decide +kernel
theorem dX13_plan_5 : decode cX13_plan 5 = .ok (.aload_n 0, 1) := by decide +kernel
theorem dX13_plan_6 : decode cX13_plan 6 = .ok (.iload_n 2, 1) := by decide +kernel
theorem dX13_plan_7 : decode cX13_plan 7 = .ok (.iconst 1, 1) := by decide +kernel
theorem dX13_plan_8 : decode cX13_plan 8 = .ok (.invokevirtual 414, 3) := by decide +kernel
theorem dX13_plan_11 : decode cX13_plan 11 = .ok (.ifCond .eq 17, 3) := by decide +kernel
theorem dX13_plan_14 : decode cX13_plan 14 = .ok (.aload_n 0, 1) := by decide +kernel
theorem dX13_plan_15 : decode cX13_plan 15 = .ok (.iload_n 1, 1) := by decide +kernel
theorem dX13_plan_16 : decode cX13_plan 16 = .ok (.iconst 1, 1) := by decide +kernel
theorem dX13_plan_17 : decode cX13_plan 17 = .ok (.iconst 4, 1) := by decide +kernel
theorem dX13_plan_18 : decode cX13_plan 18 = .ok (.invokestatic 407, 3) := by decide +kernel
theorem dX13_plan_21 : decode cX13_plan 21 = .ok (.iconst 2, 1) := by decide +kernel
theorem dX13_plan_22 : decode cX13_plan 22 = .ok (.invokevirtual 326, 3) := by decide +kernel
theorem dX13_plan_25 : decode cX13_plan 25 = .ok (.ifCond .ne 5, 3) := by decide +kernel
theorem dX13_plan_28 : decode cX13_plan 28 = .ok (.iconst 0, 1) := by decide +kernel
theorem dX13_plan_29 : decode cX13_plan 29 = .ok (.ireturn, 1) := by decide +kernel
theorem dX13_plan_30 : decode cX13_plan 30 = .ok (.aload_n 0, 1) := by decide +kernel
theorem dX13_plan_31 : decode cX13_plan 31 = .ok (.getfield 108, 3) := by decide +kernel
theorem dX13_plan_34 : decode cX13_plan 34 = .ok (.iconst 4, 1) := by decide +kernel
theorem dX13_plan_35 : decode cX13_plan 35 = .ok (.iaload, 1) := by decide +kernel
theorem dX13_plan_36 : decode cX13_plan 36 = .ok (.istore_n 3, 1) := by decide +kernel
theorem dX13_plan_37 : decode cX13_plan 37 = .ok (.iload_n 1, 1) := by decide +kernel
theorem dX13_plan_38 : decode cX13_plan 38 = .ok (.iconst 1, 1) := by decide +kernel
theorem dX13_plan_39 : decode cX13_plan 39 = .ok (.if_icmp .ne 12, 3) := by decide +kernel
theorem dX13_plan_42 : decode cX13_plan 42 = .ok (.aload_n 0, 1) := by decide +kernel
theorem dX13_plan_43 : decode cX13_plan 43 = .ok (.iconst 0, 1) := by decide +kernel
theorem dX13_plan_44 : decode cX13_plan 44 = .ok (.iload_n 3, 1) := by decide +kernel
theorem dX13_plan_45 : decode cX13_plan 45 = .ok (.invokevirtual 447, 3) := by decide +kernel
theorem dX13_plan_48 : decode cX13_plan 48 = .ok (.goto 37, 3) := by decide +kernel
theorem dX13_plan_51 : decode cX13_plan 51 = .ok (.iload_n 1, 1) := by decide +kernel
theorem dX13_plan_52 : decode cX13_plan 52 = .ok (.iconst 2, 1) := by decide +kernel
theorem dX13_plan_53 : decode cX13_plan 53 = .ok (.if_icmp .ne 12, 3) := by decide +kernel
theorem dX13_plan_56 : decode cX13_plan 56 = .ok (.aload_n 0, 1) := by decide +kernel
theorem dX13_plan_57 : decode cX13_plan 57 = .ok (.iconst 0, 1) := by decide +kernel
theorem dX13_plan_58 : decode cX13_plan 58 = .ok (.iload_n 3, 1) := by decide +kernel
theorem dX13_plan_59 : decode cX13_plan 59 = .ok (.invokevirtual 450, 3) := by decide +kernel
theorem dX13_plan_62 : decode cX13_plan 62 = .ok (.goto 23, 3) := by decide +kernel
theorem dX13_plan_65 : decode cX13_plan 65 = .ok (.iload_n 1, 1) := by decide +kernel
theorem dX13_plan_66 : decode cX13_plan 66 = .ok (.iconst 3, 1) := by decide +kernel
theorem dX13_plan_67 : decode cX13_plan 67 = .ok (.if_icmp .ne 12, 3) := by decide +kernel
theorem dX13_plan_70 : decode cX13_plan 70 = .ok (.aload_n 0, 1) := by decide +kernel
theorem dX13_plan_71 : decode cX13_plan 71 = .ok (.iconst 0, 1) := by decide +kernel
theorem dX13_plan_72 : decode cX13_plan 72 = .ok (.iload_n 3, 1) := by decide +kernel
theorem dX13_plan_73 : decode cX13_plan 73 = .ok (.invokevirtual 453, 3) := by decide +kernel
theorem dX13_plan_76 : decode cX13_plan 76 = .ok (.goto 9, 3) := by decide +kernel
theorem dX13_plan_79 : decode cX13_plan 79 = .ok (.aload_n 0, 1) := by decide +kernel
theorem dX13_plan_80 : decode cX13_plan 80 = .ok (.iconst 0, 1) := by decide +kernel
theorem dX13_plan_81 : decode cX13_plan 81 = .ok (.iload_n 3, 1) := by decide +kernel
theorem dX13_plan_82 : decode cX13_plan 82 = .ok (.invokevirtual 456, 3) := by decide +kernel
theorem dX13_plan_85 : decode cX13_plan 85 = .ok (.istore 4, 2) := by decide +kernel
theorem dX13_plan_87 : decode cX13_plan 87 = .ok (.iload_n 2, 1) := by decide +kernel
theorem dX13_plan_88 : decode cX13_plan 88 = .ok (.ifCond .ne 15, 3) := by decide +kernel
theorem dX13_plan_91 : decode cX13_plan 91 = .ok (.iload 4, 2) := by decide +kernel
theorem dX13_plan_93 : decode cX13_plan 93 = .ok (.aload_n 0, 1) := by decide +kernel
theorem dX13_plan_94 : decode cX13_plan 94 = .ok (.iconst 0, 1) := by decide +kernel
theorem dX13_plan_95 : decode cX13_plan 95 = .ok (.iload_n 3, 1) := by decide +kernel
theorem dX13_plan_96 : decode cX13_plan 96 = .ok (.invokevirtual 441, 3) := by decide +kernel
theorem dX13_plan_99 : decode cX13_plan 99 = .ok (.isub, 1) := by decide +kernel
theorem dX13_plan_100 : decode cX13_plan 100 = .ok (.goto 7, 3) := by decide +kernel
theorem dX13_plan_103 : decode cX13_plan 103 = .ok (.aload_n 0, 1) := by decide +kernel
theorem dX13_plan_104 : decode cX13_plan 104 = .ok (.getfield 444, 3) := by decide +kernel
theorem dX13_plan_107 : decode cX13_plan 107 = .ok (.ireturn, 1) := by decide +kernel
theorem dX13_isWin_0 : decode cX13_isWin 0 = .ok (.aload_n 0, 1) := by decide +kernel
theorem dX13_isWin_1 : decode cX13_isWin 1 = .ok (.getfield 38, 3) := by decide +kernel
theorem dX13_isWin_4 : decode cX13_isWin 4 = .ok (.iload_n 1, 1) := by decide +kernel
theorem dX13_isWin_5 : decode cX13_isWin 5 = .ok (.iaload, 1) := by decide +kernel
theorem dX13_isWin_6 : decode cX13_isWin 6 = .ok (.aload_n 0, 1) := by decide +kernel
theorem dX13_isWin_7 : decode cX13_isWin 7 = .ok (.getfield 41, 3) := by decide +kernel
theorem dX13_isWin_10 : decode cX13_isWin 10 = .ok (.iload_n 1, 1) := by decide +kernel
theorem dX13_isWin_11 : decode cX13_isWin 11 = .ok (.iaload, 1) := by decide +kernel
theorem dX13_isWin_12 : decode cX13_isWin 12 = .ok (.aload_n 0, 1) := by decide +kernel
theorem dX13_isWin_13 : decode cX13_isWin 13 = .ok (.getfield 47, 3) := by decide +kernel
theorem dX13_isWin_16 : decode cX13_isWin 16 = .ok (.iload_n 2, 1) := by decide +kernel
theorem dX13_isWin_17 : decode cX13_isWin 17 = .ok (.iaload, 1) := by decide +kernel
theorem dX13_isWin_18 : decode cX13_isWin 18 = .ok (.if_icmp .ne 7, 3) := by decide +kernel
theorem dX13_isWin_21 : decode cX13_isWin 21 = .ok (.iconst 5, 1) := by decide +kernel
theorem dX13_isWin_22 : decode cX13_isWin 22 = .ok (.goto 4, 3) := by decide +kernel
theorem dX13_isWin_25 : decode cX13_isWin 25 = .ok (.iconst 0, 1) := by decide +kernel
theorem dX13_isWin_26 : decode cX13_isWin 26 = .ok (.iadd, 1) := by decide +kernel
theorem dX13_isWin_27 : decode cX13_isWin 27 = .ok (.aload_n 0, 1) := by decide +kernel
theorem dX13_isWin_28 : decode cX13_isWin 28 = .ok (.getfield 44, 3) := by decide +kernel
theorem dX13_isWin_31 : decode cX13_isWin 31 = .ok (.iload_n 2, 1) := by decide +kernel
theorem dX13_isWin_32 : decode cX13_isWin 32 = .ok (.iaload, 1) := by decide +kernel
theorem dX13_isWin_33 : decode cX13_isWin 33 = .ok (.aload_n 0, 1) := by decide +kernel
theorem dX13_isWin_34 : decode cX13_isWin 34 = .ok (.getfield 108, 3) := by decide +kernel
theorem dX13_isWin_37 : decode cX13_isWin 37 = .ok (.iconst 1, 1) := by decide +kernel
theorem dX13_isWin_38 : decode cX13_isWin 38 = .ok (.iaload, 1) := by decide +kernel
theorem dX13_isWin_39 : decode cX13_isWin 39 = .ok (.bipush 10, 2) := by decide +kernel
theorem dX13_isWin_41 : decode cX13_isWin 41 = .ok (.idiv, 1) := by decide +kernel
theorem dX13_isWin_42 : decode cX13_isWin 42 = .ok (.iadd, 1) := by decide +kernel
theorem dX13_isWin_43 : decode cX13_isWin 43 = .ok (.if_icmp .le 7, 3) := by decide +kernel
theorem dX13_isWin_46 : decode cX13_isWin 46 = .ok (.iconst 1, 1) := by decide +kernel
theorem dX13_isWin_47 : decode cX13_isWin 47 = .ok (.goto 4, 3) := by decide +kernel
theorem dX13_isWin_50 : decode cX13_isWin 50 = .ok (.iconst 0, 1) := by decide +kernel
theorem dX13_isWin_51 : decode cX13_isWin 51 = .ok (.ireturn, 1) := by decide +kernel
theorem dX13_wins_0 : decode cX13_wins 0 = .ok (.aload_n 0, 1) := by decide +kernel
theorem dX13_wins_1 : decode cX13_wins 1 = .ok (.iconst 0, 1) := by decide +kernel
theorem dX13_wins_2 : decode cX13_wins 2 = .ok (.putfield 141, 3) := by decide +kernel
theorem dX13_wins_5 : decode cX13_wins 5 = .ok (.aload_n 0, 1) := by decide +kernel
theorem dX13_wins_6 : decode cX13_wins 6 = .ok (.iload_n 1, 1) := by decide +kernel
theorem dX13_wins_7 : decode cX13_wins 7 = .ok (.ifCond .lt 27, 3) := by decide +kernel
theorem dX13_wins_10 : decode cX13_wins 10 = .ok (.iload_n 1, 1) := by decide +kernel
theorem dX13_wins_11 : decode cX13_wins 11 = .ok (.aload_n 0, 1) := by decide +kernel
theorem dX13_wins_12 : decode cX13_wins 12 = .ok (.getfield 342, 3) := by decide +kernel
theorem dX13_wins_15 : decode cX13_wins 15 = .ok (.if_icmp .ge 19, 3) := by decide +kernel
theorem dX13_wins_18 : decode cX13_wins 18 = .ok (.iload_n 2, 1) := by decide +kernel
theorem dX13_wins_19 : decode cX13_wins 19 = .ok (.ifCond .lt 15, 3) := by decide +kernel
theorem dX13_wins_22 : decode cX13_wins 22 = .ok (.iload_n 2, 1) := by decide +kernel
theorem dX13_wins_23 : decode cX13_wins 23 = .ok (.aload_n 0, 1) := by decide +kernel
theorem dX13_wins_24 : decode cX13_wins 24 = .ok (.getfield 345, 3) := by decide +kernel
theorem dX13_wins_27 : decode cX13_wins 27 = .ok (.if_icmp .ge 7, 3) := by decide +kernel
theorem dX13_wins_30 : decode cX13_wins 30 = .ok (.iconst 1, 1) := by decide +kernel
theorem dX13_wins_31 : decode cX13_wins 31 = .ok (.goto 4, 3) := by decide +kernel
theorem dX13_wins_34 : decode cX13_wins 34 = .ok (.iconst 0, 1) := by decide +kernel
theorem dX13_wins_35 : decode cX13_wins 35 = .ok (.iconst 1, 1) := by decide +kernel
theorem dX13_wins_36 : decode cX13_wins 36 = .ok (.invokevirtual 326, 3) := by decide +kernel
theorem dX13_wins_39 : decode cX13_wins 39 = .ok (.ifCond .eq 16, 3) := by decide +kernel
theorem dX13_wins_42 : decode cX13_wins 42 = .ok (.aload_n 0, 1) := by decide +kernel
theorem dX13_wins_43 : decode cX13_wins 43 = .ok (.iload_n 1, 1) := by decide +kernel
theorem dX13_wins_44 : decode cX13_wins 44 = .ok (.iload_n 2, 1) := by decide +kernel
theorem dX13_wins_45 : decode cX13_wins 45 = .ok (.invokevirtual 459, 3) := by decide +kernel
theorem dX13_wins_48 : decode cX13_wins 48 = .ok (.ifCond .eq 7, 3) := by decide +kernel
theorem dX13_wins_51 : decode cX13_wins 51 = .ok (.iconst 1, 1) := by decide +kernel
theorem dX13_wins_52 : decode cX13_wins 52 = .ok (.goto 4, 3) := by decide +kernel
theorem dX13_wins_55 : decode cX13_wins 55 = .ok (.iconst 0, 1) := by decide +kernel
theorem dX13_wins_56 : decode cX13_wins 56 = .ok (.ireturn, 1) := by decide +kernel
theorem dX13_mostOf_0 : decode cX13_mostOf 0 = .ok (.iload_n 1, 1) := by decide +kernel
theorem dX13_mostOf_1 : decode cX13_mostOf 1 = .ok (.aload_n 0, 1) := by decide +kernel
theorem dX13_mostOf_2 : decode cX13_mostOf 2 = .ok (.getfield 342, 3) := by decide +kernel
theorem dX13_mostOf_5 : decode cX13_mostOf 5 = .ok (.if_icmp .ne 7, 3) := by decide +kernel
theorem dX13_mostOf_8 : decode cX13_mostOf 8 = .ok (.iconst 0, 1) := by decide +kernel
theorem dX13_mostOf_9 : decode cX13_mostOf 9 = .ok (.goto 15, 3) := by decide +kernel
theorem dX13_mostOf_12 : decode cX13_mostOf 12 = .ok (.aload_n 0, 1) := by decide +kernel
theorem dX13_mostOf_13 : decode cX13_mostOf 13 = .ok (.getfield 120, 3) := by decide +kernel
theorem dX13_mostOf_16 : decode cX13_mostOf 16 = .ok (.sipush 128, 3) := by decide +kernel
theorem dX13_mostOf_19 : decode cX13_mostOf 19 = .ok (.iload_n 1, 1) := by decide +kernel
theorem dX13_mostOf_20 : decode cX13_mostOf 20 = .ok (.imul, 1) := by decide +kernel
theorem dX13_mostOf_21 : decode cX13_mostOf 21 = .ok (.iload_n 2, 1) := by decide +kernel
theorem dX13_mostOf_22 : decode cX13_mostOf 22 = .ok (.iadd, 1) := by decide +kernel
theorem dX13_mostOf_23 : decode cX13_mostOf 23 = .ok (.iaload, 1) := by decide +kernel
theorem dX13_mostOf_24 : decode cX13_mostOf 24 = .ok (.ireturn, 1) := by decide +kernel
theorem dX13_assault_0 : decode cX13_assault 0 = .ok (.aload_n 0, 1) := by decide +kernel
theorem dX13_assault_1 : decode cX13_assault 1 = .ok (.iconst 0, 1) := by decide +kernel
theorem dX13_assault_2 : decode cX13_assault 2 = .ok (.putfield 141, 3) := by decide +kernel
theorem dX13_assault_5 : decode cX13_assault 5 = .ok (.aload_n 0, 1) := by decide +kernel
theorem dX13_assault_6 : decode cX13_assault 6 = .ok (.iload_n 1, 1) := by decide +kernel
theorem dX13_assault_7 : decode cX13_assault 7 = .ok (.iconst (-1), 1) := by decide +kernel
theorem dX13_assault_8 : decode cX13_assault 8 = .ok (.if_icmp .lt 15, 3) := by decide +kernel
theorem dX13_assault_11 : decode cX13_assault 11 = .ok (.iload_n 1, 1) := by decide +kernel
theorem dX13_assault_12 : decode cX13_assault 12 = .ok (.aload_n 0, 1) := by decide +kernel
theorem dX13_assault_13 : decode cX13_assault 13 = .ok (.getfield 342, 3) := by decide +kernel
theorem dX13_assault_16 : decode cX13_assault 16 = .ok (.if_icmp .ge 7, 3) := by decide +kernel
theorem dX13_assault_19 : decode cX13_assault 19 = .ok (.iconst 1, 1) := by decide +kernel
theorem dX13_assault_20 : decode cX13_assault 20 = .ok (.goto 4, 3) := by decide +kernel
theorem dX13_assault_23 : decode cX13_assault 23 = .ok (.iconst 0, 1) := by decide +kernel
theorem dX13_assault_24 : decode cX13_assault 24 = .ok (.iconst 1, 1) := by decide +kernel
theorem dX13_assault_25 : decode cX13_assault 25 = .ok (.invokevirtual 326, 3) := by decide +kernel
theorem dX13_assault_28 : decode cX13_assault 28 = .ok (.ifCond .ne 5, 3) := by decide +kernel
theorem dX13_assault_31 : decode cX13_assault 31 = .ok (.iconst 0, 1) := by decide +kernel
theorem dX13_assault_32 : decode cX13_assault 32 = .ok (.ireturn, 1) := by decide +kernel
theorem dX13_assault_33 : decode cX13_assault 33 = .ok (.aload_n 0, 1) := by decide +kernel
theorem dX13_assault_34 : decode cX13_assault 34 = .ok (.getfield 342, 3) := by decide +kernel
theorem dX13_assault_37 : decode cX13_assault 37 = .ok (.iconst 1, 1) := by decide +kernel
theorem dX13_assault_38 : decode cX13_assault 38 = .ok (.isub, 1) := by decide +kernel
theorem dX13_assault_39 : decode cX13_assault 39 = .ok (.istore_n 2, 1) := by decide +kernel
theorem dX13_assault_40 : decode cX13_assault 40 = .ok (.iload_n 2, 1) := by decide +kernel
theorem dX13_assault_41 : decode cX13_assault 41 = .ok (.ifCond .lt 125, 3) := by decide +kernel
theorem dX13_assault_44 : decode cX13_assault 44 = .ok (.iconst 0, 1) := by decide +kernel
theorem dX13_assault_45 : decode cX13_assault 45 = .ok (.istore_n 3, 1) := by decide +kernel
theorem dX13_assault_46 : decode cX13_assault 46 = .ok (.iload_n 3, 1) := by decide +kernel
theorem dX13_assault_47 : decode cX13_assault 47 = .ok (.iconst 1, 1) := by decide +kernel
theorem dX13_assault_48 : decode cX13_assault 48 = .ok (.aload_n 0, 1) := by decide +kernel
theorem dX13_assault_49 : decode cX13_assault 49 = .ok (.getfield 345, 3) := by decide +kernel
theorem dX13_assault_52 : decode cX13_assault 52 = .ok (.ishl, 1) := by decide +kernel
theorem dX13_assault_53 : decode cX13_assault 53 = .ok (.if_icmp .ge 107, 3) := by decide +kernel
theorem dX13_assault_56 : decode cX13_assault 56 = .ok (.aload_n 0, 1) := by decide +kernel
theorem dX13_assault_57 : decode cX13_assault 57 = .ok (.iload_n 2, 1) := by decide +kernel
theorem dX13_assault_58 : decode cX13_assault 58 = .ok (.iconst 1, 1) := by decide +kernel
theorem dX13_assault_59 : decode cX13_assault 59 = .ok (.iadd, 1) := by decide +kernel
theorem dX13_assault_60 : decode cX13_assault 60 = .ok (.iload_n 3, 1) := by decide +kernel
theorem dX13_assault_61 : decode cX13_assault 61 = .ok (.invokevirtual 462, 3) := by decide +kernel
theorem dX13_assault_64 : decode cX13_assault 64 = .ok (.istore 4, 2) := by decide +kernel
theorem dX13_assault_66 : decode cX13_assault 66 = .ok (.iconst 0, 1) := by decide +kernel
theorem dX13_assault_67 : decode cX13_assault 67 = .ok (.istore 5, 2) := by decide +kernel
theorem dX13_assault_69 : decode cX13_assault 69 = .ok (.iload 5, 2) := by decide +kernel
theorem dX13_assault_71 : decode cX13_assault 71 = .ok (.aload_n 0, 1) := by decide +kernel
theorem dX13_assault_72 : decode cX13_assault 72 = .ok (.getfield 345, 3) := by decide +kernel
theorem dX13_assault_75 : decode cX13_assault 75 = .ok (.if_icmp .ge 65, 3) := by decide +kernel
theorem dX13_assault_78 : decode cX13_assault 78 = .ok (.iload_n 3, 1) := by decide +kernel
theorem dX13_assault_79 : decode cX13_assault 79 = .ok (.iload 5, 2) := by decide +kernel
theorem dX13_assault_81 : decode cX13_assault 81 = .ok (.ishr, 1) := by decide +kernel
theorem dX13_assault_82 : decode cX13_assault 82 = .ok (.iconst 1, 1) := by decide +kernel
theorem dX13_assault_83 : decode cX13_assault 83 = .ok (.iand, 1) := by decide +kernel
theorem dX13_assault_84 : decode cX13_assault 84 = .ok (.ifCond .ne 50, 3) := by decide +kernel
theorem dX13_assault_87 : decode cX13_assault 87 = .ok (.aload_n 0, 1) := by decide +kernel
theorem dX13_assault_88 : decode cX13_assault 88 = .ok (.iload_n 2, 1) := by decide +kernel
theorem dX13_assault_89 : decode cX13_assault 89 = .ok (.iload 5, 2) := by decide +kernel
theorem dX13_assault_91 : decode cX13_assault 91 = .ok (.invokevirtual 459, 3) := by decide +kernel
theorem dX13_assault_94 : decode cX13_assault 94 = .ok (.ifCond .eq 40, 3) := by decide +kernel
theorem dX13_assault_97 : decode cX13_assault 97 = .ok (.iconst 1, 1) := by decide +kernel
theorem dX13_assault_98 : decode cX13_assault 98 = .ok (.aload_n 0, 1) := by decide +kernel
theorem dX13_assault_99 : decode cX13_assault 99 = .ok (.iload_n 2, 1) := by decide +kernel
theorem dX13_assault_100 : decode cX13_assault 100 = .ok (.iconst 1, 1) := by decide +kernel
theorem dX13_assault_101 : decode cX13_assault 101 = .ok (.iadd, 1) := by decide +kernel
theorem dX13_assault_102 : decode cX13_assault 102 = .ok (.iload_n 3, 1) := by decide +kernel
theorem dX13_assault_103 : decode cX13_assault 103 = .ok (.iconst 1, 1) := by decide +kernel
theorem dX13_assault_104 : decode cX13_assault 104 = .ok (.iload 5, 2) := by decide +kernel
theorem dX13_assault_106 : decode cX13_assault 106 = .ok (.ishl, 1) := by decide +kernel
theorem dX13_assault_107 : decode cX13_assault 107 = .ok (.ior, 1) := by decide +kernel
theorem dX13_assault_108 : decode cX13_assault 108 = .ok (.invokevirtual 462, 3) := by decide +kernel
theorem dX13_assault_111 : decode cX13_assault 111 = .ok (.iadd, 1) := by decide +kernel
theorem dX13_assault_112 : decode cX13_assault 112 = .ok (.iload 4, 2) := by decide +kernel
theorem dX13_assault_114 : decode cX13_assault 114 = .ok (.if_icmp .le 20, 3) := by decide +kernel
theorem dX13_assault_117 : decode cX13_assault 117 = .ok (.iconst 1, 1) := by decide +kernel
theorem dX13_assault_118 : decode cX13_assault 118 = .ok (.aload_n 0, 1) := by decide +kernel
theorem dX13_assault_119 : decode cX13_assault 119 = .ok (.iload_n 2, 1) := by decide +kernel
theorem dX13_assault_120 : decode cX13_assault 120 = .ok (.iconst 1, 1) := by decide +kernel
theorem dX13_assault_121 : decode cX13_assault 121 = .ok (.iadd, 1) := by decide +kernel
theorem dX13_assault_122 : decode cX13_assault 122 = .ok (.iload_n 3, 1) := by decide +kernel
theorem dX13_assault_123 : decode cX13_assault 123 = .ok (.iconst 1, 1) := by decide +kernel
theorem dX13_assault_124 : decode cX13_assault 124 = .ok (.iload 5, 2) := by decide +kernel
theorem dX13_assault_126 : decode cX13_assault 126 = .ok (.ishl, 1) := by decide +kernel
theorem dX13_assault_127 : decode cX13_assault 127 = .ok (.ior, 1) := by decide +kernel
theorem dX13_assault_128 : decode cX13_assault 128 = .ok (.invokevirtual 462, 3) := by decide +kernel
theorem dX13_assault_131 : decode cX13_assault 131 = .ok (.iadd, 1) := by decide +kernel
theorem dX13_assault_132 : decode cX13_assault 132 = .ok (.istore 4, 2) := by decide +kernel
theorem dX13_assault_134 : decode cX13_assault 134 = .ok (.iinc 5 1, 3) := by decide +kernel
theorem dX13_assault_137 : decode cX13_assault 137 = .ok (.goto (-68), 3) := by decide +kernel
theorem dX13_assault_140 : decode cX13_assault 140 = .ok (.aload_n 0, 1) := by decide +kernel
theorem dX13_assault_141 : decode cX13_assault 141 = .ok (.getfield 120, 3) := by decide +kernel
theorem dX13_assault_144 : decode cX13_assault 144 = .ok (.sipush 128, 3) := by decide +kernel
theorem dX13_assault_147 : decode cX13_assault 147 = .ok (.iload_n 2, 1) := by decide +kernel
theorem dX13_assault_148 : decode cX13_assault 148 = .ok (.imul, 1) := by decide +kernel
theorem dX13_assault_149 : decode cX13_assault 149 = .ok (.iload_n 3, 1) := by decide +kernel
theorem dX13_assault_150 : decode cX13_assault 150 = .ok (.iadd, 1) := by decide +kernel
theorem dX13_assault_151 : decode cX13_assault 151 = .ok (.iload 4, 2) := by decide +kernel
theorem dX13_assault_153 : decode cX13_assault 153 = .ok (.iastore, 1) := by decide +kernel
theorem dX13_assault_154 : decode cX13_assault 154 = .ok (.iinc 3 1, 3) := by decide +kernel
theorem dX13_assault_157 : decode cX13_assault 157 = .ok (.goto (-111), 3) := by decide +kernel
theorem dX13_assault_160 : decode cX13_assault 160 = .ok (.iinc 2 (-1), 3) := by decide +kernel
theorem dX13_assault_163 : decode cX13_assault 163 = .ok (.goto (-123), 3) := by decide +kernel
theorem dX13_assault_166 : decode cX13_assault 166 = .ok (.iload_n 1, 1) := by decide +kernel
theorem dX13_assault_167 : decode cX13_assault 167 = .ok (.iconst (-1), 1) := by decide +kernel
theorem dX13_assault_168 : decode cX13_assault 168 = .ok (.if_icmp .ne 10, 3) := by decide +kernel
theorem dX13_assault_171 : decode cX13_assault 171 = .ok (.aload_n 0, 1) := by decide +kernel
theorem dX13_assault_172 : decode cX13_assault 172 = .ok (.iconst 0, 1) := by decide +kernel
theorem dX13_assault_173 : decode cX13_assault 173 = .ok (.iconst 0, 1) := by decide +kernel
theorem dX13_assault_174 : decode cX13_assault 174 = .ok (.invokevirtual 462, 3) := by decide +kernel
theorem dX13_assault_177 : decode cX13_assault 177 = .ok (.ireturn, 1) := by decide +kernel
theorem dX13_assault_178 : decode cX13_assault 178 = .ok (.iconst 0, 1) := by decide +kernel
theorem dX13_assault_179 : decode cX13_assault 179 = .ok (.istore_n 2, 1) := by decide +kernel
theorem dX13_assault_180 : decode cX13_assault 180 = .ok (.iconst (-1), 1) := by decide +kernel
theorem dX13_assault_181 : decode cX13_assault 181 = .ok (.istore_n 3, 1) := by decide +kernel
theorem dX13_assault_182 : decode cX13_assault 182 = .ok (.iconst 0, 1) := by decide +kernel
theorem dX13_assault_183 : decode cX13_assault 183 = .ok (.istore 4, 2) := by decide +kernel
theorem dX13_assault_185 : decode cX13_assault 185 = .ok (.iload 4, 2) := by decide +kernel
theorem dX13_assault_187 : decode cX13_assault 187 = .ok (.iload_n 1, 1) := by decide +kernel
theorem dX13_assault_188 : decode cX13_assault 188 = .ok (.if_icmp .gt 90, 3) := by decide +kernel
theorem dX13_assault_191 : decode cX13_assault 191 = .ok (.iconst (-1), 1) := by decide +kernel
theorem dX13_assault_192 : decode cX13_assault 192 = .ok (.istore_n 3, 1) := by decide +kernel
theorem dX13_assault_193 : decode cX13_assault 193 = .ok (.aload_n 0, 1) := by decide +kernel
theorem dX13_assault_194 : decode cX13_assault 194 = .ok (.getfield 345, 3) := by decide +kernel
theorem dX13_assault_197 : decode cX13_assault 197 = .ok (.iconst 1, 1) := by decide +kernel
theorem dX13_assault_198 : decode cX13_assault 198 = .ok (.isub, 1) := by decide +kernel
theorem dX13_assault_199 : decode cX13_assault 199 = .ok (.istore 5, 2) := by decide +kernel
theorem dX13_assault_201 : decode cX13_assault 201 = .ok (.iload 5, 2) := by decide +kernel
theorem dX13_assault_203 : decode cX13_assault 203 = .ok (.ifCond .lt 58, 3) := by decide +kernel
theorem dX13_assault_206 : decode cX13_assault 206 = .ok (.iload_n 2, 1) := by decide +kernel
theorem dX13_assault_207 : decode cX13_assault 207 = .ok (.iload 5, 2) := by decide +kernel
theorem dX13_assault_209 : decode cX13_assault 209 = .ok (.ishr, 1) := by decide +kernel
theorem dX13_assault_210 : decode cX13_assault 210 = .ok (.iconst 1, 1) := by decide +kernel
theorem dX13_assault_211 : decode cX13_assault 211 = .ok (.iand, 1) := by decide +kernel
theorem dX13_assault_212 : decode cX13_assault 212 = .ok (.ifCond .ne 43, 3) := by decide +kernel
theorem dX13_assault_215 : decode cX13_assault 215 = .ok (.aload_n 0, 1) := by decide +kernel
theorem dX13_assault_216 : decode cX13_assault 216 = .ok (.iload 4, 2) := by decide +kernel
theorem dX13_assault_218 : decode cX13_assault 218 = .ok (.iload 5, 2) := by decide +kernel
theorem dX13_assault_220 : decode cX13_assault 220 = .ok (.invokevirtual 459, 3) := by decide +kernel
theorem dX13_assault_223 : decode cX13_assault 223 = .ok (.ifCond .eq 32, 3) := by decide +kernel
theorem dX13_assault_226 : decode cX13_assault 226 = .ok (.iconst 1, 1) := by decide +kernel
theorem dX13_assault_227 : decode cX13_assault 227 = .ok (.aload_n 0, 1) := by decide +kernel
theorem dX13_assault_228 : decode cX13_assault 228 = .ok (.iload 4, 2) := by decide +kernel
theorem dX13_assault_230 : decode cX13_assault 230 = .ok (.iconst 1, 1) := by decide +kernel
theorem dX13_assault_231 : decode cX13_assault 231 = .ok (.iadd, 1) := by decide +kernel
theorem dX13_assault_232 : decode cX13_assault 232 = .ok (.iload_n 2, 1) := by decide +kernel
theorem dX13_assault_233 : decode cX13_assault 233 = .ok (.iconst 1, 1) := by decide +kernel
theorem dX13_assault_234 : decode cX13_assault 234 = .ok (.iload 5, 2) := by decide +kernel
theorem dX13_assault_236 : decode cX13_assault 236 = .ok (.ishl, 1) := by decide +kernel
theorem dX13_assault_237 : decode cX13_assault 237 = .ok (.ior, 1) := by decide +kernel
theorem dX13_assault_238 : decode cX13_assault 238 = .ok (.invokevirtual 462, 3) := by decide +kernel
theorem dX13_assault_241 : decode cX13_assault 241 = .ok (.iadd, 1) := by decide +kernel
theorem dX13_assault_242 : decode cX13_assault 242 = .ok (.aload_n 0, 1) := by decide +kernel
theorem dX13_assault_243 : decode cX13_assault 243 = .ok (.iload 4, 2) := by decide +kernel
theorem dX13_assault_245 : decode cX13_assault 245 = .ok (.iload_n 2, 1) := by decide +kernel
theorem dX13_assault_246 : decode cX13_assault 246 = .ok (.invokevirtual 462, 3) := by decide +kernel
theorem dX13_assault_249 : decode cX13_assault 249 = .ok (.if_icmp .ne 6, 3) := by decide +kernel
theorem dX13_assault_252 : decode cX13_assault 252 = .ok (.iload 5, 2) := by decide +kernel
theorem dX13_assault_254 : decode cX13_assault 254 = .ok (.istore_n 3, 1) := by decide +kernel
theorem dX13_assault_255 : decode cX13_assault 255 = .ok (.iinc 5 (-1), 3) := by decide +kernel
theorem dX13_assault_258 : decode cX13_assault 258 = .ok (.goto (-57), 3) := by decide +kernel
theorem dX13_assault_261 : decode cX13_assault 261 = .ok (.iload_n 3, 1) := by decide +kernel
theorem dX13_assault_262 : decode cX13_assault 262 = .ok (.iconst (-1), 1) := by decide +kernel
theorem dX13_assault_263 : decode cX13_assault 263 = .ok (.if_icmp .eq 9, 3) := by decide +kernel
theorem dX13_assault_266 : decode cX13_assault 266 = .ok (.iload_n 2, 1) := by decide +kernel
theorem dX13_assault_267 : decode cX13_assault 267 = .ok (.iconst 1, 1) := by decide +kernel
theorem dX13_assault_268 : decode cX13_assault 268 = .ok (.iload_n 3, 1) := by decide +kernel
theorem dX13_assault_269 : decode cX13_assault 269 = .ok (.ishl, 1) := by decide +kernel
theorem dX13_assault_270 : decode cX13_assault 270 = .ok (.ior, 1) := by decide +kernel
theorem dX13_assault_271 : decode cX13_assault 271 = .ok (.istore_n 2, 1) := by decide +kernel
theorem dX13_assault_272 : decode cX13_assault 272 = .ok (.iinc 4 1, 3) := by decide +kernel
theorem dX13_assault_275 : decode cX13_assault 275 = .ok (.goto (-90), 3) := by decide +kernel
theorem dX13_assault_278 : decode cX13_assault 278 = .ok (.iload_n 3, 1) := by decide +kernel
theorem dX13_assault_279 : decode cX13_assault 279 = .ok (.ireturn, 1) := by decide +kernel
theorem dX13_isBought_0 : decode cX13_isBought 0 = .ok (.iconst 0, 1) := by decide +kernel
theorem dX13_isBought_1 : decode cX13_isBought 1 = .ok (.istore_n 2, 1) := by decide +kernel
theorem dX13_isBought_2 : decode cX13_isBought 2 = .ok (.iload_n 2, 1) := by decide +kernel
theorem dX13_isBought_3 : decode cX13_isBought 3 = .ok (.aload_n 0, 1) := by decide +kernel
theorem dX13_isBought_4 : decode cX13_isBought 4 = .ok (.getfield 342, 3) := by decide +kernel
theorem dX13_isBought_7 : decode cX13_isBought 7 = .ok (.if_icmp .ge 55, 3) := by decide +kernel
theorem dX13_isBought_10 : decode cX13_isBought 10 = .ok (.iconst 0, 1) := by decide +kernel
theorem dX13_isBought_11 : decode cX13_isBought 11 = .ok (.istore_n 3, 1) := by decide +kernel
theorem dX13_isBought_12 : decode cX13_isBought 12 = .ok (.iload_n 3, 1) := by decide +kernel
theorem dX13_isBought_13 : decode cX13_isBought 13 = .ok (.aload_n 0, 1) := by decide +kernel
theorem dX13_isBought_14 : decode cX13_isBought 14 = .ok (.getfield 345, 3) := by decide +kernel
theorem dX13_isBought_17 : decode cX13_isBought 17 = .ok (.if_icmp .ge 39, 3) := by decide +kernel
theorem dX13_isBought_20 : decode cX13_isBought 20 = .ok (.iload_n 1, 1) := by decide +kernel
theorem dX13_isBought_21 : decode cX13_isBought 21 = .ok (.iload_n 2, 1) := by decide +kernel
theorem dX13_isBought_22 : decode cX13_isBought 22 = .ok (.ishr, 1) := by decide +kernel
theorem dX13_isBought_23 : decode cX13_isBought 23 = .ok (.iconst 1, 1) := by decide +kernel
theorem dX13_isBought_24 : decode cX13_isBought 24 = .ok (.iand, 1) := by decide +kernel
theorem dX13_isBought_25 : decode cX13_isBought 25 = .ok (.ifCond .ne 25, 3) := by decide +kernel
theorem dX13_isBought_28 : decode cX13_isBought 28 = .ok (.iload_n 1, 1) := by decide +kernel
theorem dX13_isBought_29 : decode cX13_isBought 29 = .ok (.bipush 7, 2) := by decide +kernel
theorem dX13_isBought_31 : decode cX13_isBought 31 = .ok (.iload_n 3, 1) := by decide +kernel
theorem dX13_isBought_32 : decode cX13_isBought 32 = .ok (.iadd, 1) := by decide +kernel
theorem dX13_isBought_33 : decode cX13_isBought 33 = .ok (.ishr, 1) := by decide +kernel
theorem dX13_isBought_34 : decode cX13_isBought 34 = .ok (.iconst 1, 1) := by decide +kernel
theorem dX13_isBought_35 : decode cX13_isBought 35 = .ok (.iand, 1) := by decide +kernel
theorem dX13_isBought_36 : decode cX13_isBought 36 = .ok (.ifCond .ne 14, 3) := by decide +kernel
theorem dX13_isBought_39 : decode cX13_isBought 39 = .ok (.aload_n 0, 1) := by decide +kernel
theorem dX13_isBought_40 : decode cX13_isBought 40 = .ok (.iload_n 2, 1) := by decide +kernel
theorem dX13_isBought_41 : decode cX13_isBought 41 = .ok (.iload_n 3, 1) := by decide +kernel
theorem dX13_isBought_42 : decode cX13_isBought 42 = .ok (.invokevirtual 459, 3) := by decide +kernel
theorem dX13_isBought_45 : decode cX13_isBought 45 = .ok (.ifCond .eq 5, 3) := by decide +kernel
theorem dX13_isBought_48 : decode cX13_isBought 48 = .ok (.iconst 0, 1) := by decide +kernel
theorem dX13_isBought_49 : decode cX13_isBought 49 = .ok (.ireturn, 1) := by decide +kernel
theorem dX13_isBought_50 : decode cX13_isBought 50 = .ok (.iinc 3 1, 3) := by decide +kernel
theorem dX13_isBought_53 : decode cX13_isBought 53 = .ok (.goto (-41), 3) := by decide +kernel
theorem dX13_isBought_56 : decode cX13_isBought 56 = .ok (.iinc 2 1, 3) := by decide +kernel
theorem dX13_isBought_59 : decode cX13_isBought 59 = .ok (.goto (-57), 3) := by decide +kernel
theorem dX13_isBought_62 : decode cX13_isBought 62 = .ok (.iconst 1, 1) := by decide +kernel
theorem dX13_isBought_63 : decode cX13_isBought 63 = .ok (.ireturn, 1) := by decide +kernel
theorem dX13_bought_0 : decode cX13_bought 0 = .ok (.aload_n 0, 1) := by decide +kernel
theorem dX13_bought_1 : decode cX13_bought 1 = .ok (.iconst 0, 1) := by decide +kernel
theorem dX13_bought_2 : decode cX13_bought 2 = .ok (.putfield 141, 3) := by decide +kernel
theorem dX13_bought_5 : decode cX13_bought 5 = .ok (.aload_n 0, 1) := by decide +kernel
theorem dX13_bought_6 : decode cX13_bought 6 = .ok (.iload_n 1, 1) := by decide +kernel
theorem dX13_bought_7 : decode cX13_bought 7 = .ok (.iconst 1, 1) := by decide +kernel
theorem dX13_bought_8 : decode cX13_bought 8 = .ok (.invokevirtual 414, 3) := by decide +kernel
theorem dX13_bought_11 : decode cX13_bought 11 = .ok (.ifCond .ne 5, 3) := by decide +kernel
theorem dX13_bought_14 : decode cX13_bought 14 = .ok (.iconst 0, 1) := by decide +kernel
theorem dX13_bought_15 : decode cX13_bought 15 = .ok (.ireturn, 1) := by decide +kernel
theorem dX13_bought_16 : decode cX13_bought 16 = .ok (.iconst 1, 1) := by decide +kernel
theorem dX13_bought_17 : decode cX13_bought 17 = .ok (.aload_n 0, 1) := by decide +kernel
theorem dX13_bought_18 : decode cX13_bought 18 = .ok (.getfield 342, 3) := by decide +kernel
theorem dX13_bought_21 : decode cX13_bought 21 = .ok (.ishl, 1) := by decide +kernel
theorem dX13_bought_22 : decode cX13_bought 22 = .ok (.iconst 1, 1) := by decide +kernel
theorem dX13_bought_23 : decode cX13_bought 23 = .ok (.isub, 1) := by decide +kernel
theorem dX13_bought_24 : decode cX13_bought 24 = .ok (.iconst 1, 1) := by decide +kernel
theorem dX13_bought_25 : decode cX13_bought 25 = .ok (.aload_n 0, 1) := by decide +kernel
theorem dX13_bought_26 : decode cX13_bought 26 = .ok (.getfield 345, 3) := by decide +kernel
theorem dX13_bought_29 : decode cX13_bought 29 = .ok (.ishl, 1) := by decide +kernel
theorem dX13_bought_30 : decode cX13_bought 30 = .ok (.iconst 1, 1) := by decide +kernel
theorem dX13_bought_31 : decode cX13_bought 31 = .ok (.isub, 1) := by decide +kernel
theorem dX13_bought_32 : decode cX13_bought 32 = .ok (.bipush 7, 2) := by decide +kernel
theorem dX13_bought_34 : decode cX13_bought 34 = .ok (.ishl, 1) := by decide +kernel
theorem dX13_bought_35 : decode cX13_bought 35 = .ok (.ior, 1) := by decide +kernel
theorem dX13_bought_36 : decode cX13_bought 36 = .ok (.istore_n 2, 1) := by decide +kernel
theorem dX13_bought_37 : decode cX13_bought 37 = .ok (.iconst (-1), 1) := by decide +kernel
theorem dX13_bought_38 : decode cX13_bought 38 = .ok (.istore_n 3, 1) := by decide +kernel
theorem dX13_bought_39 : decode cX13_bought 39 = .ok (.iconst 0, 1) := by decide +kernel
theorem dX13_bought_40 : decode cX13_bought 40 = .ok (.istore 4, 2) := by decide +kernel
theorem dX13_bought_42 : decode cX13_bought 42 = .ok (.iload 4, 2) := by decide +kernel
theorem dX13_bought_44 : decode cX13_bought 44 = .ok (.iload_n 2, 1) := by decide +kernel
theorem dX13_bought_45 : decode cX13_bought 45 = .ok (.if_icmp .gt 47, 3) := by decide +kernel
theorem dX13_bought_48 : decode cX13_bought 48 = .ok (.iload 4, 2) := by decide +kernel
theorem dX13_bought_50 : decode cX13_bought 50 = .ok (.iload_n 2, 1) := by decide +kernel
theorem dX13_bought_51 : decode cX13_bought 51 = .ok (.iconst (-1), 1) := by decide +kernel
theorem dX13_bought_52 : decode cX13_bought 52 = .ok (.ixor, 1) := by decide +kernel
theorem dX13_bought_53 : decode cX13_bought 53 = .ok (.iand, 1) := by decide +kernel
theorem dX13_bought_54 : decode cX13_bought 54 = .ok (.ifCond .ne 32, 3) := by decide +kernel
theorem dX13_bought_57 : decode cX13_bought 57 = .ok (.iload_n 3, 1) := by decide +kernel
theorem dX13_bought_58 : decode cX13_bought 58 = .ok (.iconst (-1), 1) := by decide +kernel
theorem dX13_bought_59 : decode cX13_bought 59 = .ok (.if_icmp .eq 15, 3) := by decide +kernel
theorem dX13_bought_62 : decode cX13_bought 62 = .ok (.iload 4, 2) := by decide +kernel
theorem dX13_bought_64 : decode cX13_bought 64 = .ok (.invokestatic 465, 3) := by decide +kernel
theorem dX13_bought_67 : decode cX13_bought 67 = .ok (.iload_n 3, 1) := by decide +kernel
theorem dX13_bought_68 : decode cX13_bought 68 = .ok (.invokestatic 465, 3) := by decide +kernel
theorem dX13_bought_71 : decode cX13_bought 71 = .ok (.if_icmp .ge 15, 3) := by decide +kernel
theorem dX13_bought_74 : decode cX13_bought 74 = .ok (.aload_n 0, 1) := by decide +kernel
theorem dX13_bought_75 : decode cX13_bought 75 = .ok (.iload 4, 2) := by decide +kernel
theorem dX13_bought_77 : decode cX13_bought 77 = .ok (.invokevirtual 468, 3) := by decide +kernel
theorem dX13_bought_80 : decode cX13_bought 80 = .ok (.ifCond .eq 6, 3) := by decide +kernel
theorem dX13_bought_83 : decode cX13_bought 83 = .ok (.iload 4, 2) := by decide +kernel
theorem dX13_bought_85 : decode cX13_bought 85 = .ok (.istore_n 3, 1) := by decide +kernel
theorem dX13_bought_86 : decode cX13_bought 86 = .ok (.iinc 4 1, 3) := by decide +kernel
theorem dX13_bought_89 : decode cX13_bought 89 = .ok (.goto (-47), 3) := by decide +kernel
theorem dX13_bought_92 : decode cX13_bought 92 = .ok (.iload_n 1, 1) := by decide +kernel
theorem dX13_bought_93 : decode cX13_bought 93 = .ok (.ifCond .ne 10, 3) := by decide +kernel
theorem dX13_bought_96 : decode cX13_bought 96 = .ok (.iload_n 3, 1) := by decide +kernel
theorem dX13_bought_97 : decode cX13_bought 97 = .ok (.invokestatic 465, 3) := by decide +kernel
theorem dX13_bought_100 : decode cX13_bought 100 = .ok (.goto 4, 3) := by decide +kernel
theorem dX13_bought_103 : decode cX13_bought 103 = .ok (.iload_n 3, 1) := by decide +kernel
theorem dX13_bought_104 : decode cX13_bought 104 = .ok (.ireturn, 1) := by decide +kernel
theorem dX13_odds_0 : decode cX13_odds 0 = .ok (.aload_n 0, 1) := by decide +kernel
theorem dX13_odds_1 : decode cX13_odds 1 = .ok (.iconst 0, 1) := by decide +kernel
theorem dX13_odds_2 : decode cX13_odds 2 = .ok (.putfield 141, 3) := by decide +kernel
theorem dX13_odds_5 : decode cX13_odds 5 = .ok (.aload_n 0, 1) := by decide +kernel
theorem dX13_odds_6 : decode cX13_odds 6 = .ok (.iload_n 1, 1) := by decide +kernel
theorem dX13_odds_7 : decode cX13_odds 7 = .ok (.invokevirtual 417, 3) := by decide +kernel
theorem dX13_odds_10 : decode cX13_odds 10 = .ok (.ifCond .eq 36, 3) := by decide +kernel
theorem dX13_odds_13 : decode cX13_odds 13 = .ok (.aload_n 0, 1) := by decide +kernel
theorem dX13_odds_14 : decode cX13_odds 14 = .ok (.iload_n 2, 1) := by decide +kernel
theorem dX13_odds_15 : decode cX13_odds 15 = .ok (.iconst 1, 1) := by decide +kernel
theorem dX13_odds_16 : decode cX13_odds 16 = .ok (.bipush 9, 2) := by decide +kernel
theorem dX13_odds_18 : decode cX13_odds 18 = .ok (.invokestatic 407, 3) := by decide +kernel
theorem dX13_odds_21 : decode cX13_odds 21 = .ok (.ifCond .eq 17, 3) := by decide +kernel
theorem dX13_odds_24 : decode cX13_odds 24 = .ok (.iload_n 3, 1) := by decide +kernel
theorem dX13_odds_25 : decode cX13_odds 25 = .ok (.iconst 0, 1) := by decide +kernel
theorem dX13_odds_26 : decode cX13_odds 26 = .ok (.bipush 54, 2) := by decide +kernel
theorem dX13_odds_28 : decode cX13_odds 28 = .ok (.invokestatic 407, 3) := by decide +kernel
theorem dX13_odds_31 : decode cX13_odds 31 = .ok (.ifCond .eq 7, 3) := by decide +kernel
theorem dX13_odds_34 : decode cX13_odds 34 = .ok (.iconst 1, 1) := by decide +kernel
theorem dX13_odds_35 : decode cX13_odds 35 = .ok (.goto 4, 3) := by decide +kernel
theorem dX13_odds_38 : decode cX13_odds 38 = .ok (.iconst 0, 1) := by decide +kernel
theorem dX13_odds_39 : decode cX13_odds 39 = .ok (.iconst 2, 1) := by decide +kernel
theorem dX13_odds_40 : decode cX13_odds 40 = .ok (.invokevirtual 326, 3) := by decide +kernel
theorem dX13_odds_43 : decode cX13_odds 43 = .ok (.ifCond .ne 5, 3) := by decide +kernel
theorem dX13_odds_46 : decode cX13_odds 46 = .ok (.iconst 0, 1) := by decide +kernel
theorem dX13_odds_47 : decode cX13_odds 47 = .ok (.ireturn, 1) := by decide +kernel
theorem dX13_odds_48 : decode cX13_odds 48 = .ok (.aload_n 0, 1) := by decide +kernel
theorem dX13_odds_49 : decode cX13_odds 49 = .ok (.iconst 0, 1) := by decide +kernel
theorem dX13_odds_50 : decode cX13_odds 50 = .ok (.iload_n 1, 1) := by decide +kernel
theorem dX13_odds_51 : decode cX13_odds 51 = .ok (.invokevirtual 375, 3) := by decide +kernel
theorem dX13_odds_54 : decode cX13_odds 54 = .ok (.istore 4, 2) := by decide +kernel
theorem dX13_odds_56 : decode cX13_odds 56 = .ok (.iconst 0, 1) := by decide +kernel
theorem dX13_odds_57 : decode cX13_odds 57 = .ok (.istore 5, 2) := by decide +kernel
theorem dX13_odds_59 : decode cX13_odds 59 = .ok (.iconst 0, 1) := by decide +kernel
theorem dX13_odds_60 : decode cX13_odds 60 = .ok (.istore 6, 2) := by decide +kernel
theorem dX13_odds_62 : decode cX13_odds 62 = .ok (.iload 6, 2) := by decide +kernel
theorem dX13_odds_64 : decode cX13_odds 64 = .ok (.iload 4, 2) := by decide +kernel
theorem dX13_odds_66 : decode cX13_odds 66 = .ok (.if_icmp .gt 95, 3) := by decide +kernel
theorem dX13_odds_69 : decode cX13_odds 69 = .ok (.iload 6, 2) := by decide +kernel
theorem dX13_odds_71 : decode cX13_odds 71 = .ok (.iload 4, 2) := by decide +kernel
theorem dX13_odds_73 : decode cX13_odds 73 = .ok (.iconst (-1), 1) := by decide +kernel
theorem dX13_odds_74 : decode cX13_odds 74 = .ok (.ixor, 1) := by decide +kernel
theorem dX13_odds_75 : decode cX13_odds 75 = .ok (.iand, 1) := by decide +kernel
theorem dX13_odds_76 : decode cX13_odds 76 = .ok (.ifCond .ne 79, 3) := by decide +kernel
theorem dX13_odds_79 : decode cX13_odds 79 = .ok (.aload_n 0, 1) := by decide +kernel
theorem dX13_odds_80 : decode cX13_odds 80 = .ok (.iload 6, 2) := by decide +kernel
theorem dX13_odds_82 : decode cX13_odds 82 = .ok (.invokevirtual 378, 3) := by decide +kernel
theorem dX13_odds_85 : decode cX13_odds 85 = .ok (.iload_n 3, 1) := by decide +kernel
theorem dX13_odds_86 : decode cX13_odds 86 = .ok (.if_icmp .ge 6, 3) := by decide +kernel
theorem dX13_odds_89 : decode cX13_odds 89 = .ok (.goto 66, 3) := by decide +kernel
theorem dX13_odds_92 : decode cX13_odds 92 = .ok (.iconst 1, 1) := by decide +kernel
theorem dX13_odds_93 : decode cX13_odds 93 = .ok (.istore 7, 2) := by decide +kernel
theorem dX13_odds_95 : decode cX13_odds 95 = .ok (.iconst 0, 1) := by decide +kernel
theorem dX13_odds_96 : decode cX13_odds 96 = .ok (.istore 8, 2) := by decide +kernel
theorem dX13_odds_98 : decode cX13_odds 98 = .ok (.iload 8, 2) := by decide +kernel
theorem dX13_odds_100 : decode cX13_odds 100 = .ok (.aload_n 0, 1) := by decide +kernel
theorem dX13_odds_101 : decode cX13_odds 101 = .ok (.getfield 339, 3) := by decide +kernel
theorem dX13_odds_104 : decode cX13_odds 104 = .ok (.if_icmp .ge 44, 3) := by decide +kernel
theorem dX13_odds_107 : decode cX13_odds 107 = .ok (.iload 4, 2) := by decide +kernel
theorem dX13_odds_109 : decode cX13_odds 109 = .ok (.iload 8, 2) := by decide +kernel
theorem dX13_odds_111 : decode cX13_odds 111 = .ok (.ishr, 1) := by decide +kernel
theorem dX13_odds_112 : decode cX13_odds 112 = .ok (.iconst 1, 1) := by decide +kernel
theorem dX13_odds_113 : decode cX13_odds 113 = .ok (.iand, 1) := by decide +kernel
theorem dX13_odds_114 : decode cX13_odds 114 = .ok (.iconst 1, 1) := by decide +kernel
theorem dX13_odds_115 : decode cX13_odds 115 = .ok (.if_icmp .ne 27, 3) := by decide +kernel
theorem dX13_odds_118 : decode cX13_odds 118 = .ok (.iload 7, 2) := by decide +kernel
theorem dX13_odds_120 : decode cX13_odds 120 = .ok (.iload 6, 2) := by decide +kernel
theorem dX13_odds_122 : decode cX13_odds 122 = .ok (.iload 8, 2) := by decide +kernel
theorem dX13_odds_124 : decode cX13_odds 124 = .ok (.ishr, 1) := by decide +kernel
theorem dX13_odds_125 : decode cX13_odds 125 = .ok (.iconst 1, 1) := by decide +kernel
theorem dX13_odds_126 : decode cX13_odds 126 = .ok (.iand, 1) := by decide +kernel
theorem dX13_odds_127 : decode cX13_odds 127 = .ok (.iconst 1, 1) := by decide +kernel
theorem dX13_odds_128 : decode cX13_odds 128 = .ok (.if_icmp .ne 7, 3) := by decide +kernel
theorem dX13_odds_131 : decode cX13_odds 131 = .ok (.iload_n 2, 1) := by decide +kernel
theorem dX13_odds_132 : decode cX13_odds 132 = .ok (.goto 7, 3) := by decide +kernel
theorem dX13_odds_135 : decode cX13_odds 135 = .ok (.bipush 10, 2) := by decide +kernel
theorem dX13_odds_137 : decode cX13_odds 137 = .ok (.iload_n 2, 1) := by decide +kernel
theorem dX13_odds_138 : decode cX13_odds 138 = .ok (.isub, 1) := by decide +kernel
theorem dX13_odds_139 : decode cX13_odds 139 = .ok (.imul, 1) := by decide +kernel
theorem dX13_odds_140 : decode cX13_odds 140 = .ok (.istore 7, 2) := by decide +kernel
theorem dX13_odds_142 : decode cX13_odds 142 = .ok (.iinc 8 1, 3) := by decide +kernel
theorem dX13_odds_145 : decode cX13_odds 145 = .ok (.goto (-47), 3) := by decide +kernel
theorem dX13_odds_148 : decode cX13_odds 148 = .ok (.iload 5, 2) := by decide +kernel
theorem dX13_odds_150 : decode cX13_odds 150 = .ok (.iload 7, 2) := by decide +kernel
theorem dX13_odds_152 : decode cX13_odds 152 = .ok (.iadd, 1) := by decide +kernel
theorem dX13_odds_153 : decode cX13_odds 153 = .ok (.istore 5, 2) := by decide +kernel
theorem dX13_odds_155 : decode cX13_odds 155 = .ok (.iinc 6 1, 3) := by decide +kernel
theorem dX13_odds_158 : decode cX13_odds 158 = .ok (.goto (-96), 3) := by decide +kernel
theorem dX13_odds_161 : decode cX13_odds 161 = .ok (.iload 5, 2) := by decide +kernel
theorem dX13_odds_163 : decode cX13_odds 163 = .ok (.ireturn, 1) := by decide +kernel
theorem dX13_moved_0 : decode cX13_moved 0 = .ok (.aload_n 0, 1) := by decide +kernel
theorem dX13_moved_1 : decode cX13_moved 1 = .ok (.iconst 0, 1) := by decide +kernel
theorem dX13_moved_2 : decode cX13_moved 2 = .ok (.putfield 141, 3) := by decide +kernel
theorem dX13_moved_5 : decode cX13_moved 5 = .ok (.aload_n 0, 1) := by decide +kernel
theorem dX13_moved_6 : decode cX13_moved 6 = .ok (.iload_n 1, 1) := by decide +kernel
theorem dX13_moved_7 : decode cX13_moved 7 = .ok (.invokevirtual 417, 3) := by decide +kernel
theorem dX13_moved_10 : decode cX13_moved 10 = .ok (.ifCond .eq 18, 3) := by decide +kernel
theorem dX13_moved_13 : decode cX13_moved 13 = .ok (.aload_n 0, 1) := by decide +kernel
theorem dX13_moved_14 : decode cX13_moved 14 = .ok (.iload_n 2, 1) := by decide +kernel
theorem dX13_moved_15 : decode cX13_moved 15 = .ok (.iconst 1, 1) := by decide +kernel
theorem dX13_moved_16 : decode cX13_moved 16 = .ok (.bipush 99, 2) := by decide +kernel
theorem dX13_moved_18 : decode cX13_moved 18 = .ok (.invokestatic 407, 3) := by decide +kernel
theorem dX13_moved_21 : decode cX13_moved 21 = .ok (.iconst 2, 1) := by decide +kernel
theorem dX13_moved_22 : decode cX13_moved 22 = .ok (.invokevirtual 326, 3) := by decide +kernel
theorem dX13_moved_25 : decode cX13_moved 25 = .ok (.ifCond .ne 5, 3) := by decide +kernel
theorem dX13_moved_28 : decode cX13_moved 28 = .ok (.iconst 0, 1) := by decide +kernel
theorem dX13_moved_29 : decode cX13_moved 29 = .ok (.ireturn, 1) := by decide +kernel
theorem dX13_moved_30 : decode cX13_moved 30 = .ok (.iconst 0, 1) := by decide +kernel
theorem dX13_moved_31 : decode cX13_moved 31 = .ok (.istore_n 3, 1) := by decide +kernel
theorem dX13_moved_32 : decode cX13_moved 32 = .ok (.iconst 0, 1) := by decide +kernel
theorem dX13_moved_33 : decode cX13_moved 33 = .ok (.istore 4, 2) := by decide +kernel
theorem dX13_moved_35 : decode cX13_moved 35 = .ok (.iload 4, 2) := by decide +kernel
theorem dX13_moved_37 : decode cX13_moved 37 = .ok (.aload_n 0, 1) := by decide +kernel
theorem dX13_moved_38 : decode cX13_moved 38 = .ok (.getfield 339, 3) := by decide +kernel
theorem dX13_moved_41 : decode cX13_moved 41 = .ok (.if_icmp .ge 46, 3) := by decide +kernel
theorem dX13_moved_44 : decode cX13_moved 44 = .ok (.iload_n 3, 1) := by decide +kernel
theorem dX13_moved_45 : decode cX13_moved 45 = .ok (.aload_n 0, 1) := by decide +kernel
theorem dX13_moved_46 : decode cX13_moved 46 = .ok (.iconst 0, 1) := by decide +kernel
theorem dX13_moved_47 : decode cX13_moved 47 = .ok (.iload 4, 2) := by decide +kernel
theorem dX13_moved_49 : decode cX13_moved 49 = .ok (.iconst 0, 1) := by decide +kernel
theorem dX13_moved_50 : decode cX13_moved 50 = .ok (.iconst 0, 1) := by decide +kernel
theorem dX13_moved_51 : decode cX13_moved 51 = .ok (.invokevirtual 372, 3) := by decide +kernel
theorem dX13_moved_54 : decode cX13_moved 54 = .ok (.iload_n 1, 1) := by decide +kernel
theorem dX13_moved_55 : decode cX13_moved 55 = .ok (.if_icmp .eq 23, 3) := by decide +kernel
theorem dX13_moved_58 : decode cX13_moved 58 = .ok (.aload_n 0, 1) := by decide +kernel
theorem dX13_moved_59 : decode cX13_moved 59 = .ok (.iconst 0, 1) := by decide +kernel
theorem dX13_moved_60 : decode cX13_moved 60 = .ok (.iload 4, 2) := by decide +kernel
theorem dX13_moved_62 : decode cX13_moved 62 = .ok (.iload_n 1, 1) := by decide +kernel
theorem dX13_moved_63 : decode cX13_moved 63 = .ok (.iload_n 2, 1) := by decide +kernel
theorem dX13_moved_64 : decode cX13_moved 64 = .ok (.invokevirtual 372, 3) := by decide +kernel
theorem dX13_moved_67 : decode cX13_moved 67 = .ok (.iload_n 1, 1) := by decide +kernel
theorem dX13_moved_68 : decode cX13_moved 68 = .ok (.if_icmp .ne 10, 3) := by decide +kernel
theorem dX13_moved_71 : decode cX13_moved 71 = .ok (.iconst 1, 1) := by decide +kernel
theorem dX13_moved_72 : decode cX13_moved 72 = .ok (.iload 4, 2) := by decide +kernel
theorem dX13_moved_74 : decode cX13_moved 74 = .ok (.ishl, 1) := by decide +kernel
theorem dX13_moved_75 : decode cX13_moved 75 = .ok (.goto 4, 3) := by decide +kernel
theorem dX13_moved_78 : decode cX13_moved 78 = .ok (.iconst 0, 1) := by decide +kernel
theorem dX13_moved_79 : decode cX13_moved 79 = .ok (.ior, 1) := by decide +kernel
theorem dX13_moved_80 : decode cX13_moved 80 = .ok (.istore_n 3, 1) := by decide +kernel
theorem dX13_moved_81 : decode cX13_moved 81 = .ok (.iinc 4 1, 3) := by decide +kernel
theorem dX13_moved_84 : decode cX13_moved 84 = .ok (.goto (-49), 3) := by decide +kernel
theorem dX13_moved_87 : decode cX13_moved 87 = .ok (.iload_n 3, 1) := by decide +kernel
theorem dX13_moved_88 : decode cX13_moved 88 = .ok (.ireturn, 1) := by decide +kernel
theorem dX13_isResting_0 : decode cX13_isResting 0 = .ok (.iconst 0, 1) := by decide +kernel
theorem dX13_isResting_1 : decode cX13_isResting 1 = .ok (.istore_n 2, 1) := by decide +kernel
theorem dX13_isResting_2 : decode cX13_isResting 2 = .ok (.iload_n 2, 1) := by decide +kernel
theorem dX13_isResting_3 : decode cX13_isResting 3 = .ok (.aload_n 0, 1) := by decide +kernel
theorem dX13_isResting_4 : decode cX13_isResting 4 = .ok (.getfield 339, 3) := by decide +kernel
theorem dX13_isResting_7 : decode cX13_isResting 7 = .ok (.if_icmp .ge 97, 3) := by decide +kernel
theorem dX13_isResting_10 : decode cX13_isResting 10 = .ok (.iload_n 1, 1) := by decide +kernel
theorem dX13_isResting_11 : decode cX13_isResting 11 = .ok (.iload_n 2, 1) := by decide +kernel
theorem dX13_isResting_12 : decode cX13_isResting 12 = .ok (.ishr, 1) := by decide +kernel
theorem dX13_isResting_13 : decode cX13_isResting 13 = .ok (.iconst 1, 1) := by decide +kernel
theorem dX13_isResting_14 : decode cX13_isResting 14 = .ok (.iand, 1) := by decide +kernel
theorem dX13_isResting_15 : decode cX13_isResting 15 = .ok (.istore_n 3, 1) := by decide +kernel
theorem dX13_isResting_16 : decode cX13_isResting 16 = .ok (.iload_n 3, 1) := by decide +kernel
theorem dX13_isResting_17 : decode cX13_isResting 17 = .ok (.iconst 1, 1) := by decide +kernel
theorem dX13_isResting_18 : decode cX13_isResting 18 = .ok (.if_icmp .ne 15, 3) := by decide +kernel
theorem dX13_isResting_21 : decode cX13_isResting 21 = .ok (.aload_n 0, 1) := by decide +kernel
theorem dX13_isResting_22 : decode cX13_isResting 22 = .ok (.getfield 108, 3) := by decide +kernel
theorem dX13_isResting_25 : decode cX13_isResting 25 = .ok (.bipush 25, 2) := by decide +kernel
theorem dX13_isResting_27 : decode cX13_isResting 27 = .ok (.iload_n 2, 1) := by decide +kernel
theorem dX13_isResting_28 : decode cX13_isResting 28 = .ok (.iadd, 1) := by decide +kernel
theorem dX13_isResting_29 : decode cX13_isResting 29 = .ok (.iaload, 1) := by decide +kernel
theorem dX13_isResting_30 : decode cX13_isResting 30 = .ok (.goto 14, 3) := by decide +kernel
theorem dX13_isResting_33 : decode cX13_isResting 33 = .ok (.iconst 0, 1) := by decide +kernel
theorem dX13_isResting_34 : decode cX13_isResting 34 = .ok (.aload_n 0, 1) := by decide +kernel
theorem dX13_isResting_35 : decode cX13_isResting 35 = .ok (.getfield 108, 3) := by decide +kernel
theorem dX13_isResting_38 : decode cX13_isResting 38 = .ok (.bipush 25, 2) := by decide +kernel
theorem dX13_isResting_40 : decode cX13_isResting 40 = .ok (.iload_n 2, 1) := by decide +kernel
theorem dX13_isResting_41 : decode cX13_isResting 41 = .ok (.iadd, 1) := by decide +kernel
theorem dX13_isResting_42 : decode cX13_isResting 42 = .ok (.iaload, 1) := by decide +kernel
theorem dX13_isResting_43 : decode cX13_isResting 43 = .ok (.isub, 1) := by decide +kernel
theorem dX13_isResting_44 : decode cX13_isResting 44 = .ok (.istore 4, 2) := by decide +kernel
theorem dX13_isResting_46 : decode cX13_isResting 46 = .ok (.iconst 0, 1) := by decide +kernel
theorem dX13_isResting_47 : decode cX13_isResting 47 = .ok (.istore 5, 2) := by decide +kernel
theorem dX13_isResting_49 : decode cX13_isResting 49 = .ok (.iload 5, 2) := by decide +kernel
theorem dX13_isResting_51 : decode cX13_isResting 51 = .ok (.aload_n 0, 1) := by decide +kernel
theorem dX13_isResting_52 : decode cX13_isResting 52 = .ok (.getfield 339, 3) := by decide +kernel
theorem dX13_isResting_55 : decode cX13_isResting 55 = .ok (.if_icmp .ge 36, 3) := by decide +kernel
theorem dX13_isResting_58 : decode cX13_isResting 58 = .ok (.iload 5, 2) := by decide +kernel
theorem dX13_isResting_60 : decode cX13_isResting 60 = .ok (.iload_n 2, 1) := by decide +kernel
theorem dX13_isResting_61 : decode cX13_isResting 61 = .ok (.if_icmp .eq 24, 3) := by decide +kernel
theorem dX13_isResting_64 : decode cX13_isResting 64 = .ok (.iload 4, 2) := by decide +kernel
theorem dX13_isResting_66 : decode cX13_isResting 66 = .ok (.iload_n 1, 1) := by decide +kernel
theorem dX13_isResting_67 : decode cX13_isResting 67 = .ok (.iload 5, 2) := by decide +kernel
theorem dX13_isResting_69 : decode cX13_isResting 69 = .ok (.ishr, 1) := by decide +kernel
theorem dX13_isResting_70 : decode cX13_isResting 70 = .ok (.iconst 1, 1) := by decide +kernel
theorem dX13_isResting_71 : decode cX13_isResting 71 = .ok (.iand, 1) := by decide +kernel
theorem dX13_isResting_72 : decode cX13_isResting 72 = .ok (.iload_n 3, 1) := by decide +kernel
theorem dX13_isResting_73 : decode cX13_isResting 73 = .ok (.if_icmp .ne 7, 3) := by decide +kernel
theorem dX13_isResting_76 : decode cX13_isResting 76 = .ok (.iconst 2, 1) := by decide +kernel
theorem dX13_isResting_77 : decode cX13_isResting 77 = .ok (.goto 5, 3) := by decide +kernel
theorem dX13_isResting_80 : decode cX13_isResting 80 = .ok (.bipush (-2), 2) := by decide +kernel
theorem dX13_isResting_82 : decode cX13_isResting 82 = .ok (.iadd, 1) := by decide +kernel
theorem dX13_isResting_83 : decode cX13_isResting 83 = .ok (.istore 4, 2) := by decide +kernel
theorem dX13_isResting_85 : decode cX13_isResting 85 = .ok (.iinc 5 1, 3) := by decide +kernel
theorem dX13_isResting_88 : decode cX13_isResting 88 = .ok (.goto (-39), 3) := by decide +kernel
theorem dX13_isResting_91 : decode cX13_isResting 91 = .ok (.iload 4, 2) := by decide +kernel
theorem dX13_isResting_93 : decode cX13_isResting 93 = .ok (.ifCond .ge 5, 3) := by decide +kernel
theorem dX13_isResting_96 : decode cX13_isResting 96 = .ok (.iconst 0, 1) := by decide +kernel
theorem dX13_isResting_97 : decode cX13_isResting 97 = .ok (.ireturn, 1) := by decide +kernel
theorem dX13_isResting_98 : decode cX13_isResting 98 = .ok (.iinc 2 1, 3) := by decide +kernel
theorem dX13_isResting_101 : decode cX13_isResting 101 = .ok (.goto (-99), 3) := by decide +kernel
theorem dX13_isResting_104 : decode cX13_isResting 104 = .ok (.iconst 1, 1) := by decide +kernel
theorem dX13_isResting_105 : decode cX13_isResting 105 = .ok (.ireturn, 1) := by decide +kernel
theorem dX13_parties_0 : decode cX13_parties 0 = .ok (.aload_n 0, 1) := by decide +kernel
theorem dX13_parties_1 : decode cX13_parties 1 = .ok (.iconst 0, 1) := by decide +kernel
theorem dX13_parties_2 : decode cX13_parties 2 = .ok (.putfield 141, 3) := by decide +kernel
theorem dX13_parties_5 : decode cX13_parties 5 = .ok (.aload_n 0, 1) := by decide +kernel
theorem dX13_parties_6 : decode cX13_parties 6 = .ok (.iload_n 1, 1) := by decide +kernel
theorem dX13_parties_7 : decode cX13_parties 7 = .ok (.iconst 1, 1) := by decide +kernel
theorem dX13_parties_8 : decode cX13_parties 8 = .ok (.invokevirtual 414, 3) := by decide +kernel
theorem dX13_parties_11 : decode cX13_parties 11 = .ok (.ifCond .ne 5, 3) := by decide +kernel
theorem dX13_parties_14 : decode cX13_parties 14 = .ok (.iconst 0, 1) := by decide +kernel
theorem dX13_parties_15 : decode cX13_parties 15 = .ok (.ireturn, 1) := by decide +kernel
theorem dX13_parties_16 : decode cX13_parties 16 = .ok (.iconst 0, 1) := by decide +kernel
theorem dX13_parties_17 : decode cX13_parties 17 = .ok (.istore_n 2, 1) := by decide +kernel
theorem dX13_parties_18 : decode cX13_parties 18 = .ok (.iconst (-1), 1) := by decide +kernel
theorem dX13_parties_19 : decode cX13_parties 19 = .ok (.istore_n 3, 1) := by decide +kernel
theorem dX13_parties_20 : decode cX13_parties 20 = .ok (.iconst 0, 1) := by decide +kernel
theorem dX13_parties_21 : decode cX13_parties 21 = .ok (.istore 4, 2) := by decide +kernel
theorem dX13_parties_23 : decode cX13_parties 23 = .ok (.iload 4, 2) := by decide +kernel
theorem dX13_parties_25 : decode cX13_parties 25 = .ok (.iconst 1, 1) := by decide +kernel
theorem dX13_parties_26 : decode cX13_parties 26 = .ok (.aload_n 0, 1) := by decide +kernel
theorem dX13_parties_27 : decode cX13_parties 27 = .ok (.getfield 339, 3) := by decide +kernel
theorem dX13_parties_30 : decode cX13_parties 30 = .ok (.ishl, 1) := by decide +kernel
theorem dX13_parties_31 : decode cX13_parties 31 = .ok (.if_icmp .ge 32, 3) := by decide +kernel
theorem dX13_parties_34 : decode cX13_parties 34 = .ok (.aload_n 0, 1) := by decide +kernel
theorem dX13_parties_35 : decode cX13_parties 35 = .ok (.iload 4, 2) := by decide +kernel
theorem dX13_parties_37 : decode cX13_parties 37 = .ok (.invokevirtual 471, 3) := by decide +kernel
theorem dX13_parties_40 : decode cX13_parties 40 = .ok (.ifCond .ne 6, 3) := by decide +kernel
theorem dX13_parties_43 : decode cX13_parties 43 = .ok (.goto 14, 3) := by decide +kernel
theorem dX13_parties_46 : decode cX13_parties 46 = .ok (.iinc 2 1, 3) := by decide +kernel
theorem dX13_parties_49 : decode cX13_parties 49 = .ok (.iload_n 3, 1) := by decide +kernel
theorem dX13_parties_50 : decode cX13_parties 50 = .ok (.iconst (-1), 1) := by decide +kernel
theorem dX13_parties_51 : decode cX13_parties 51 = .ok (.if_icmp .ne 6, 3) := by decide +kernel
theorem dX13_parties_54 : decode cX13_parties 54 = .ok (.iload 4, 2) := by decide +kernel
theorem dX13_parties_56 : decode cX13_parties 56 = .ok (.istore_n 3, 1) := by decide +kernel
theorem dX13_parties_57 : decode cX13_parties 57 = .ok (.iinc 4 1, 3) := by decide +kernel
theorem dX13_parties_60 : decode cX13_parties 60 = .ok (.goto (-37), 3) := by decide +kernel
theorem dX13_parties_63 : decode cX13_parties 63 = .ok (.iload_n 1, 1) := by decide +kernel
theorem dX13_parties_64 : decode cX13_parties 64 = .ok (.ifCond .ne 7, 3) := by decide +kernel
theorem dX13_parties_67 : decode cX13_parties 67 = .ok (.iload_n 2, 1) := by decide +kernel
theorem dX13_parties_68 : decode cX13_parties 68 = .ok (.goto 4, 3) := by decide +kernel
theorem dX13_parties_71 : decode cX13_parties 71 = .ok (.iload_n 3, 1) := by decide +kernel
theorem dX13_parties_72 : decode cX13_parties 72 = .ok (.ireturn, 1) := by decide +kernel
theorem dX13_see_0 : decode cX13_see 0 = .ok (.aload_n 0, 1) := by decide +kernel
theorem dX13_see_1 : decode cX13_see 1 = .ok (.iconst 0, 1) := by decide +kernel
theorem dX13_see_2 : decode cX13_see 2 = .ok (.putfield 141, 3) := by decide +kernel
theorem dX13_see_5 : decode cX13_see 5 = .ok (.aload_n 0, 1) := by decide +kernel
theorem dX13_see_6 : decode cX13_see 6 = .ok (.getfield 355, 3) := by decide +kernel
theorem dX13_see_9 : decode cX13_see 9 = .ok (.bipush 8, 2) := by decide +kernel
theorem dX13_see_11 : decode cX13_see 11 = .ok (.if_icmp .eq 24, 3) := by decide +kernel
theorem dX13_see_14 : decode cX13_see 14 = .ok (.iload_n 1, 1) := by decide +kernel
theorem dX13_see_15 : decode cX13_see 15 = .ok (.iconst 1, 1) := by decide +kernel
theorem dX13_see_16 : decode cX13_see 16 = .ok (.bipush 30, 2) := by decide +kernel
theorem dX13_see_18 : decode cX13_see 18 = .ok (.invokestatic 407, 3) := by decide +kernel
theorem dX13_see_21 : decode cX13_see 21 = .ok (.ifCond .eq 14, 3) := by decide +kernel
theorem dX13_see_24 : decode cX13_see 24 = .ok (.iload_n 2, 1) := by decide +kernel
theorem dX13_see_25 : decode cX13_see 25 = .ok (.iconst 0, 1) := by decide +kernel
theorem dX13_see_26 : decode cX13_see 26 = .ok (.sipush 999, 3) := by decide +kernel
theorem dX13_see_29 : decode cX13_see 29 = .ok (.invokestatic 407, 3) := by decide +kernel
theorem dX13_see_32 : decode cX13_see 32 = .ok (.ifCond .ne 9, 3) := by decide +kernel
theorem dX13_see_35 : decode cX13_see 35 = .ok (.aload_n 0, 1) := by decide +kernel
theorem dX13_see_36 : decode cX13_see 36 = .ok (.iconst 2, 1) := by decide +kernel
theorem dX13_see_37 : decode cX13_see 37 = .ok (.invokevirtual 423, 3) := by decide +kernel
theorem dX13_see_40 : decode cX13_see 40 = .ok (.ireturn, 1) := by decide +kernel
theorem dX13_see_41 : decode cX13_see 41 = .ok (.aload_n 0, 1) := by decide +kernel
theorem dX13_see_42 : decode cX13_see 42 = .ok (.getfield 123, 3) := by decide +kernel
theorem dX13_see_45 : decode cX13_see 45 = .ok (.iconst 2, 1) := by decide +kernel
theorem dX13_see_46 : decode cX13_see 46 = .ok (.aload_n 0, 1) := by decide +kernel
theorem dX13_see_47 : decode cX13_see 47 = .ok (.getfield 355, 3) := by decide +kernel
theorem dX13_see_50 : decode cX13_see 50 = .ok (.imul, 1) := by decide +kernel
theorem dX13_see_51 : decode cX13_see 51 = .ok (.iload_n 1, 1) := by decide +kernel
theorem dX13_see_52 : decode cX13_see 52 = .ok (.iastore, 1) := by decide +kernel
theorem dX13_see_53 : decode cX13_see 53 = .ok (.aload_n 0, 1) := by decide +kernel
theorem dX13_see_54 : decode cX13_see 54 = .ok (.getfield 123, 3) := by decide +kernel
theorem dX13_see_57 : decode cX13_see 57 = .ok (.iconst 2, 1) := by decide +kernel
theorem dX13_see_58 : decode cX13_see 58 = .ok (.aload_n 0, 1) := by decide +kernel
theorem dX13_see_59 : decode cX13_see 59 = .ok (.getfield 355, 3) := by decide +kernel
theorem dX13_see_62 : decode cX13_see 62 = .ok (.imul, 1) := by decide +kernel
theorem dX13_see_63 : decode cX13_see 63 = .ok (.iconst 1, 1) := by decide +kernel
theorem dX13_see_64 : decode cX13_see 64 = .ok (.iadd, 1) := by decide +kernel
theorem dX13_see_65 : decode cX13_see 65 = .ok (.iload_n 2, 1) := by decide +kernel
theorem dX13_see_66 : decode cX13_see 66 = .ok (.iastore, 1) := by decide +kernel
theorem dX13_see_67 : decode cX13_see 67 = .ok (.aload_n 0, 1) := by decide +kernel
theorem dX13_see_68 : decode cX13_see 68 = .ok (.dup, 1) := by decide +kernel
theorem dX13_see_69 : decode cX13_see 69 = .ok (.getfield 355, 3) := by decide +kernel
theorem dX13_see_72 : decode cX13_see 72 = .ok (.iconst 1, 1) := by decide +kernel
theorem dX13_see_73 : decode cX13_see 73 = .ok (.iadd, 1) := by decide +kernel
theorem dX13_see_74 : decode cX13_see 74 = .ok (.putfield 355, 3) := by decide +kernel
theorem dX13_see_77 : decode cX13_see 77 = .ok (.aload_n 0, 1) := by decide +kernel
theorem dX13_see_78 : decode cX13_see 78 = .ok (.getfield 355, 3) := by decide +kernel
theorem dX13_see_81 : decode cX13_see 81 = .ok (.ireturn, 1) := by decide +kernel
theorem dX13_forget_0 : decode cX13_forget 0 = .ok (.aload_n 0, 1) := by decide +kernel
theorem dX13_forget_1 : decode cX13_forget 1 = .ok (.iconst 0, 1) := by decide +kernel
theorem dX13_forget_2 : decode cX13_forget 2 = .ok (.putfield 141, 3) := by decide +kernel
theorem dX13_forget_5 : decode cX13_forget 5 = .ok (.aload_n 0, 1) := by decide +kernel
theorem dX13_forget_6 : decode cX13_forget 6 = .ok (.iconst 0, 1) := by decide +kernel
theorem dX13_forget_7 : decode cX13_forget 7 = .ok (.putfield 355, 3) := by decide +kernel
theorem dX13_forget_10 : decode cX13_forget 10 = .ok (.return_, 1) := by decide +kernel
theorem dX13_isSeen_0 : decode cX13_isSeen 0 = .ok (.aload_n 0, 1) := by decide +kernel
theorem dX13_isSeen_1 : decode cX13_isSeen 1 = .ok (.iconst 0, 1) := by decide +kernel
theorem dX13_isSeen_2 : decode cX13_isSeen 2 = .ok (.bipush 31, 2) := by decide +kernel
theorem dX13_isSeen_4 : decode cX13_isSeen 4 = .ok (.invokevirtual 432, 3) := by decide +kernel
theorem dX13_isSeen_7 : decode cX13_isSeen 7 = .ok (.iconst 1, 1) := by decide +kernel
theorem dX13_isSeen_8 : decode cX13_isSeen 8 = .ok (.istore_n 3, 1) := by decide +kernel
theorem dX13_isSeen_9 : decode cX13_isSeen 9 = .ok (.iload_n 3, 1) := by decide +kernel
theorem dX13_isSeen_10 : decode cX13_isSeen 10 = .ok (.bipush 30, 2) := by decide +kernel
theorem dX13_isSeen_12 : decode cX13_isSeen 12 = .ok (.if_icmp .gt 41, 3) := by decide +kernel
theorem dX13_isSeen_15 : decode cX13_isSeen 15 = .ok (.aload_n 0, 1) := by decide +kernel
theorem dX13_isSeen_16 : decode cX13_isSeen 16 = .ok (.bipush 31, 2) := by decide +kernel
theorem dX13_isSeen_18 : decode cX13_isSeen 18 = .ok (.iload_n 3, 1) := by decide +kernel
theorem dX13_isSeen_19 : decode cX13_isSeen 19 = .ok (.iload_n 1, 1) := by decide +kernel
theorem dX13_isSeen_20 : decode cX13_isSeen 20 = .ok (.if_icmp .ne 7, 3) := by decide +kernel
theorem dX13_isSeen_23 : decode cX13_isSeen 23 = .ok (.iload_n 2, 1) := by decide +kernel
theorem dX13_isSeen_24 : decode cX13_isSeen 24 = .ok (.goto 5, 3) := by decide +kernel
theorem dX13_isSeen_27 : decode cX13_isSeen 27 = .ok (.bipush (-2), 2) := by decide +kernel
theorem dX13_isSeen_29 : decode cX13_isSeen 29 = .ok (.invokevirtual 404, 3) := by decide +kernel
theorem dX13_isSeen_32 : decode cX13_isSeen 32 = .ok (.aload_n 0, 1) := by decide +kernel
theorem dX13_isSeen_33 : decode cX13_isSeen 33 = .ok (.getfield 126, 3) := by decide +kernel
theorem dX13_isSeen_36 : decode cX13_isSeen 36 = .ok (.iload_n 3, 1) := by decide +kernel
theorem dX13_isSeen_37 : decode cX13_isSeen 37 = .ok (.iconst 1, 1) := by decide +kernel
theorem dX13_isSeen_38 : decode cX13_isSeen 38 = .ok (.isub, 1) := by decide +kernel
theorem dX13_isSeen_39 : decode cX13_isSeen 39 = .ok (.aload_n 0, 1) := by decide +kernel
theorem dX13_isSeen_40 : decode cX13_isSeen 40 = .ok (.getfield 108, 3) := by decide +kernel
theorem dX13_isSeen_43 : decode cX13_isSeen 43 = .ok (.bipush 31, 2) := by decide +kernel
theorem dX13_isSeen_45 : decode cX13_isSeen 45 = .ok (.iaload, 1) := by decide +kernel
theorem dX13_isSeen_46 : decode cX13_isSeen 46 = .ok (.iastore, 1) := by decide +kernel
theorem dX13_isSeen_47 : decode cX13_isSeen 47 = .ok (.iinc 3 1, 3) := by decide +kernel
theorem dX13_isSeen_50 : decode cX13_isSeen 50 = .ok (.goto (-41), 3) := by decide +kernel
theorem dX13_isSeen_53 : decode cX13_isSeen 53 = .ok (.iconst 0, 1) := by decide +kernel
theorem dX13_isSeen_54 : decode cX13_isSeen 54 = .ok (.istore_n 3, 1) := by decide +kernel
theorem dX13_isSeen_55 : decode cX13_isSeen 55 = .ok (.iload_n 3, 1) := by decide +kernel
theorem dX13_isSeen_56 : decode cX13_isSeen 56 = .ok (.aload_n 0, 1) := by decide +kernel
theorem dX13_isSeen_57 : decode cX13_isSeen 57 = .ok (.getfield 355, 3) := by decide +kernel
theorem dX13_isSeen_60 : decode cX13_isSeen 60 = .ok (.if_icmp .ge 39, 3) := by decide +kernel
theorem dX13_isSeen_63 : decode cX13_isSeen 63 = .ok (.aload_n 0, 1) := by decide +kernel
theorem dX13_isSeen_64 : decode cX13_isSeen 64 = .ok (.getfield 126, 3) := by decide +kernel
theorem dX13_isSeen_67 : decode cX13_isSeen 67 = .ok (.aload_n 0, 1) := by decide +kernel
theorem dX13_isSeen_68 : decode cX13_isSeen 68 = .ok (.getfield 123, 3) := by decide +kernel
theorem dX13_isSeen_71 : decode cX13_isSeen 71 = .ok (.iconst 2, 1) := by decide +kernel
theorem dX13_isSeen_72 : decode cX13_isSeen 72 = .ok (.iload_n 3, 1) := by decide +kernel
theorem dX13_isSeen_73 : decode cX13_isSeen 73 = .ok (.imul, 1) := by decide +kernel
theorem dX13_isSeen_74 : decode cX13_isSeen 74 = .ok (.iaload, 1) := by decide +kernel
theorem dX13_isSeen_75 : decode cX13_isSeen 75 = .ok (.iconst 1, 1) := by decide +kernel
theorem dX13_isSeen_76 : decode cX13_isSeen 76 = .ok (.isub, 1) := by decide +kernel
theorem dX13_isSeen_77 : decode cX13_isSeen 77 = .ok (.iaload, 1) := by decide +kernel
theorem dX13_isSeen_78 : decode cX13_isSeen 78 = .ok (.aload_n 0, 1) := by decide +kernel
theorem dX13_isSeen_79 : decode cX13_isSeen 79 = .ok (.getfield 123, 3) := by decide +kernel
theorem dX13_isSeen_82 : decode cX13_isSeen 82 = .ok (.iconst 2, 1) := by decide +kernel
theorem dX13_isSeen_83 : decode cX13_isSeen 83 = .ok (.iload_n 3, 1) := by decide +kernel
theorem dX13_isSeen_84 : decode cX13_isSeen 84 = .ok (.imul, 1) := by decide +kernel
theorem dX13_isSeen_85 : decode cX13_isSeen 85 = .ok (.iconst 1, 1) := by decide +kernel
theorem dX13_isSeen_86 : decode cX13_isSeen 86 = .ok (.iadd, 1) := by decide +kernel
theorem dX13_isSeen_87 : decode cX13_isSeen 87 = .ok (.iaload, 1) := by decide +kernel
theorem dX13_isSeen_88 : decode cX13_isSeen 88 = .ok (.if_icmp .eq 5, 3) := by decide +kernel
theorem dX13_isSeen_91 : decode cX13_isSeen 91 = .ok (.iconst 0, 1) := by decide +kernel
theorem dX13_isSeen_92 : decode cX13_isSeen 92 = .ok (.ireturn, 1) := by decide +kernel
theorem dX13_isSeen_93 : decode cX13_isSeen 93 = .ok (.iinc 3 1, 3) := by decide +kernel
theorem dX13_isSeen_96 : decode cX13_isSeen 96 = .ok (.goto (-41), 3) := by decide +kernel
theorem dX13_isSeen_99 : decode cX13_isSeen 99 = .ok (.iconst 1, 1) := by decide +kernel
theorem dX13_isSeen_100 : decode cX13_isSeen 100 = .ok (.ireturn, 1) := by decide +kernel
theorem dX13_another_0 : decode cX13_another 0 = .ok (.aload_n 0, 1) := by decide +kernel
theorem dX13_another_1 : decode cX13_another 1 = .ok (.iconst 0, 1) := by decide +kernel
theorem dX13_another_2 : decode cX13_another 2 = .ok (.putfield 141, 3) := by decide +kernel
theorem dX13_another_5 : decode cX13_another 5 = .ok (.aload_n 0, 1) := by decide +kernel
theorem dX13_another_6 : decode cX13_another 6 = .ok (.iload_n 1, 1) := by decide +kernel
theorem dX13_another_7 : decode cX13_another 7 = .ok (.iconst 2, 1) := by decide +kernel
theorem dX13_another_8 : decode cX13_another 8 = .ok (.invokevirtual 414, 3) := by decide +kernel
theorem dX13_another_11 : decode cX13_another 11 = .ok (.ifCond .ne 5, 3) := by decide +kernel
theorem dX13_another_14 : decode cX13_another 14 = .ok (.iconst 0, 1) := by decide +kernel
theorem dX13_another_15 : decode cX13_another 15 = .ok (.ireturn, 1) := by decide +kernel
theorem dX13_another_16 : decode cX13_another 16 = .ok (.iload_n 1, 1) := by decide +kernel
theorem dX13_another_17 : decode cX13_another 17 = .ok (.iconst 2, 1) := by decide +kernel
theorem dX13_another_18 : decode cX13_another 18 = .ok (.if_icmp .ne 18, 3) := by decide +kernel
theorem dX13_another_21 : decode cX13_another 21 = .ok (.aload_n 0, 1) := by decide +kernel
theorem dX13_another_22 : decode cX13_another 22 = .ok (.iconst 0, 1) := by decide +kernel
theorem dX13_another_23 : decode cX13_another 23 = .ok (.iconst (-1), 1) := by decide +kernel
theorem dX13_another_24 : decode cX13_another 24 = .ok (.invokevirtual 474, 3) := by decide +kernel
theorem dX13_another_27 : decode cX13_another 27 = .ok (.ifCond .eq 7, 3) := by decide +kernel
theorem dX13_another_30 : decode cX13_another 30 = .ok (.iconst 1, 1) := by decide +kernel
theorem dX13_another_31 : decode cX13_another 31 = .ok (.goto 4, 3) := by decide +kernel
theorem dX13_another_34 : decode cX13_another 34 = .ok (.iconst 0, 1) := by decide +kernel
theorem dX13_another_35 : decode cX13_another 35 = .ok (.ireturn, 1) := by decide +kernel
theorem dX13_another_36 : decode cX13_another 36 = .ok (.iconst 0, 1) := by decide +kernel
theorem dX13_another_37 : decode cX13_another 37 = .ok (.istore_n 2, 1) := by decide +kernel
theorem dX13_another_38 : decode cX13_another 38 = .ok (.iconst (-1), 1) := by decide +kernel
theorem dX13_another_39 : decode cX13_another 39 = .ok (.istore_n 3, 1) := by decide +kernel
theorem dX13_another_40 : decode cX13_another 40 = .ok (.iconst 1, 1) := by decide +kernel
theorem dX13_another_41 : decode cX13_another 41 = .ok (.istore 4, 2) := by decide +kernel
theorem dX13_another_43 : decode cX13_another 43 = .ok (.iload 4, 2) := by decide +kernel
theorem dX13_another_45 : decode cX13_another 45 = .ok (.bipush 12, 2) := by decide +kernel
theorem dX13_another_47 : decode cX13_another 47 = .ok (.if_icmp .gt 58, 3) := by decide +kernel
theorem dX13_another_50 : decode cX13_another 50 = .ok (.iconst 0, 1) := by decide +kernel
theorem dX13_another_51 : decode cX13_another 51 = .ok (.istore 5, 2) := by decide +kernel
theorem dX13_another_53 : decode cX13_another 53 = .ok (.iload 5, 2) := by decide +kernel
theorem dX13_another_55 : decode cX13_another 55 = .ok (.aload_n 0, 1) := by decide +kernel
theorem dX13_another_56 : decode cX13_another 56 = .ok (.getfield 333, 3) := by decide +kernel
theorem dX13_another_59 : decode cX13_another 59 = .ok (.if_icmp .ge 40, 3) := by decide +kernel
theorem dX13_another_62 : decode cX13_another 62 = .ok (.aload_n 0, 1) := by decide +kernel
theorem dX13_another_63 : decode cX13_another 63 = .ok (.iload 4, 2) := by decide +kernel
theorem dX13_another_65 : decode cX13_another 65 = .ok (.iload 5, 2) := by decide +kernel
theorem dX13_another_67 : decode cX13_another 67 = .ok (.invokevirtual 474, 3) := by decide +kernel
theorem dX13_another_70 : decode cX13_another 70 = .ok (.ifCond .ne 6, 3) := by decide +kernel
theorem dX13_another_73 : decode cX13_another 73 = .ok (.goto 20, 3) := by decide +kernel
theorem dX13_another_76 : decode cX13_another 76 = .ok (.iinc 2 1, 3) := by decide +kernel
