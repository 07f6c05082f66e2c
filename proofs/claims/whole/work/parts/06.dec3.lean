theorem dX6_mine_85 : decode cX6_mine 85 = .ok (.iconst 3, 1) := by decide +kernel
theorem dX6_mine_86 : decode cX6_mine 86 = .ok (.iload_n 1, 1) := by decide +kernel
theorem dX6_mine_87 : decode cX6_mine 87 = .ok (.imul, 1) := by decide +kernel
theorem dX6_mine_88 : decode cX6_mine 88 = .ok (.iconst 1, 1) := by decide +kernel
theorem dX6_mine_89 : decode cX6_mine 89 = .ok (.iadd, 1) := by decide +kernel
theorem dX6_mine_90 : decode cX6_mine 90 = .ok (.iaload, 1) := by decide +kernel
theorem dX6_mine_91 : decode cX6_mine 91 = .ok (.iastore, 1) := by decide +kernel
theorem dX6_mine_92 : decode cX6_mine 92 = .ok (.aload_n 0, 1) := by decide +kernel
theorem dX6_mine_93 : decode cX6_mine 93 = .ok (.getfield 19, 3) := by decide +kernel
theorem dX6_mine_96 : decode cX6_mine 96 = .ok (.iconst 2, 1) := by decide +kernel
theorem dX6_mine_97 : decode cX6_mine 97 = .ok (.iload_n 1, 1) := by decide +kernel
theorem dX6_mine_98 : decode cX6_mine 98 = .ok (.imul, 1) := by decide +kernel
theorem dX6_mine_99 : decode cX6_mine 99 = .ok (.iconst 1, 1) := by decide +kernel
theorem dX6_mine_100 : decode cX6_mine 100 = .ok (.iadd, 1) := by decide +kernel
theorem dX6_mine_101 : decode cX6_mine 101 = .ok (.iload_n 2, 1) := by decide +kernel
theorem dX6_mine_102 : decode cX6_mine 102 = .ok (.isub, 1) := by decide +kernel
theorem dX6_mine_103 : decode cX6_mine 103 = .ok (.aload_n 0, 1) := by decide +kernel
theorem dX6_mine_104 : decode cX6_mine 104 = .ok (.getfield 13, 3) := by decide +kernel
theorem dX6_mine_107 : decode cX6_mine 107 = .ok (.iconst 3, 1) := by decide +kernel
theorem dX6_mine_108 : decode cX6_mine 108 = .ok (.iload_n 1, 1) := by decide +kernel
theorem dX6_mine_109 : decode cX6_mine 109 = .ok (.imul, 1) := by decide +kernel
theorem dX6_mine_110 : decode cX6_mine 110 = .ok (.iconst 2, 1) := by decide +kernel
theorem dX6_mine_111 : decode cX6_mine 111 = .ok (.iadd, 1) := by decide +kernel
theorem dX6_mine_112 : decode cX6_mine 112 = .ok (.iaload, 1) := by decide +kernel
theorem dX6_mine_113 : decode cX6_mine 113 = .ok (.iastore, 1) := by decide +kernel
theorem dX6_mine_114 : decode cX6_mine 114 = .ok (.iinc 1 1, 3) := by decide +kernel
theorem dX6_mine_117 : decode cX6_mine 117 = .ok (.goto (-85), 3) := by decide +kernel
theorem dX6_mine_120 : decode cX6_mine 120 = .ok (.aload_n 0, 1) := by decide +kernel
theorem dX6_mine_121 : decode cX6_mine 121 = .ok (.aload_n 0, 1) := by decide +kernel
theorem dX6_mine_122 : decode cX6_mine 122 = .ok (.getfield 68, 3) := by decide +kernel
theorem dX6_mine_125 : decode cX6_mine 125 = .ok (.putfield 87, 3) := by decide +kernel
theorem dX6_mine_128 : decode cX6_mine 128 = .ok (.aload_n 0, 1) := by decide +kernel
theorem dX6_mine_129 : decode cX6_mine 129 = .ok (.iconst 0, 1) := by decide +kernel
theorem dX6_mine_130 : decode cX6_mine 130 = .ok (.putfield 90, 3) := by decide +kernel
theorem dX6_mine_133 : decode cX6_mine 133 = .ok (.aload_n 0, 1) := by decide +kernel
theorem dX6_mine_134 : decode cX6_mine 134 = .ok (.iconst 0, 1) := by decide +kernel
theorem dX6_mine_135 : decode cX6_mine 135 = .ok (.putfield 93, 3) := by decide +kernel
theorem dX6_mine_138 : decode cX6_mine 138 = .ok (.aload_n 0, 1) := by decide +kernel
theorem dX6_mine_139 : decode cX6_mine 139 = .ok (.dup, 1) := by decide +kernel
theorem dX6_mine_140 : decode cX6_mine 140 = .ok (.getfield 96, 3) := by decide +kernel
theorem dX6_mine_143 : decode cX6_mine 143 = .ok (.iconst 1, 1) := by decide +kernel
theorem dX6_mine_144 : decode cX6_mine 144 = .ok (.iadd, 1) := by decide +kernel
theorem dX6_mine_145 : decode cX6_mine 145 = .ok (.putfield 96, 3) := by decide +kernel
theorem dX6_mine_148 : decode cX6_mine 148 = .ok (.aload_n 0, 1) := by decide +kernel
theorem dX6_mine_149 : decode cX6_mine 149 = .ok (.iconst 0, 1) := by decide +kernel
theorem dX6_mine_150 : decode cX6_mine 150 = .ok (.putfield 53, 3) := by decide +kernel
theorem dX6_mine_153 : decode cX6_mine 153 = .ok (.aload_n 0, 1) := by decide +kernel
theorem dX6_mine_154 : decode cX6_mine 154 = .ok (.getfield 84, 3) := by decide +kernel
theorem dX6_mine_157 : decode cX6_mine 157 = .ok (.ireturn, 1) := by decide +kernel
theorem dX6_lacks_0 : decode cX6_lacks 0 = .ok (.aload_n 0, 1) := by decide +kernel
theorem dX6_lacks_1 : decode cX6_lacks 1 = .ok (.getfield 84, 3) := by decide +kernel
theorem dX6_lacks_4 : decode cX6_lacks 4 = .ok (.ifCond .ne 7, 3) := by decide +kernel
theorem dX6_lacks_7 : decode cX6_lacks 7 = .ok (.iconst 1, 1) := by decide +kernel
theorem dX6_lacks_8 : decode cX6_lacks 8 = .ok (.goto 4, 3) := by decide +kernel
theorem dX6_lacks_11 : decode cX6_lacks 11 = .ok (.iconst 0, 1) := by decide +kernel
theorem dX6_lacks_12 : decode cX6_lacks 12 = .ok (.ireturn, 1) := by decide +kernel
theorem dX6_isCrossing_0 : decode cX6_isCrossing 0 = .ok (.iload_n 1, 1) := by decide +kernel
theorem dX6_isCrossing_1 : decode cX6_isCrossing 1 = .ok (.i2l, 1) := by decide +kernel
theorem dX6_isCrossing_2 : decode cX6_isCrossing 2 = .ok (.lconst 0, 1) := by decide +kernel
theorem dX6_isCrossing_3 : decode cX6_isCrossing 3 = .ok (.aload_n 0, 1) := by decide +kernel
theorem dX6_isCrossing_4 : decode cX6_isCrossing 4 = .ok (.getfield 84, 3) := by decide +kernel
theorem dX6_isCrossing_7 : decode cX6_isCrossing 7 = .ok (.iconst 1, 1) := by decide +kernel
theorem dX6_isCrossing_8 : decode cX6_isCrossing 8 = .ok (.isub, 1) := by decide +kernel
theorem dX6_isCrossing_9 : decode cX6_isCrossing 9 = .ok (.i2l, 1) := by decide +kernel
theorem dX6_isCrossing_10 : decode cX6_isCrossing 10 = .ok (.invokestatic 49, 3) := by decide +kernel
theorem dX6_isCrossing_13 : decode cX6_isCrossing 13 = .ok (.ireturn, 1) := by decide +kernel
theorem dX6_soundOf_0 : decode cX6_soundOf 0 = .ok (.aload_n 0, 1) := by decide +kernel
theorem dX6_soundOf_1 : decode cX6_soundOf 1 = .ok (.getfield 16, 3) := by decide +kernel
theorem dX6_soundOf_4 : decode cX6_soundOf 4 = .ok (.iload_n 1, 1) := by decide +kernel
theorem dX6_soundOf_5 : decode cX6_soundOf 5 = .ok (.iaload, 1) := by decide +kernel
theorem dX6_soundOf_6 : decode cX6_soundOf 6 = .ok (.iconst 1, 1) := by decide +kernel
theorem dX6_soundOf_7 : decode cX6_soundOf 7 = .ok (.if_icmp .ne 7, 3) := by decide +kernel
theorem dX6_soundOf_10 : decode cX6_soundOf 10 = .ok (.iconst 1, 1) := by decide +kernel
theorem dX6_soundOf_11 : decode cX6_soundOf 11 = .ok (.goto 18, 3) := by decide +kernel
theorem dX6_soundOf_14 : decode cX6_soundOf 14 = .ok (.aload_n 0, 1) := by decide +kernel
theorem dX6_soundOf_15 : decode cX6_soundOf 15 = .ok (.getfield 16, 3) := by decide +kernel
theorem dX6_soundOf_18 : decode cX6_soundOf 18 = .ok (.iload_n 1, 1) := by decide +kernel
theorem dX6_soundOf_19 : decode cX6_soundOf 19 = .ok (.iaload, 1) := by decide +kernel
theorem dX6_soundOf_20 : decode cX6_soundOf 20 = .ok (.iconst 4, 1) := by decide +kernel
theorem dX6_soundOf_21 : decode cX6_soundOf 21 = .ok (.if_icmp .ne 7, 3) := by decide +kernel
theorem dX6_soundOf_24 : decode cX6_soundOf 24 = .ok (.iconst 2, 1) := by decide +kernel
theorem dX6_soundOf_25 : decode cX6_soundOf 25 = .ok (.goto 4, 3) := by decide +kernel
theorem dX6_soundOf_28 : decode cX6_soundOf 28 = .ok (.iconst 0, 1) := by decide +kernel
theorem dX6_soundOf_29 : decode cX6_soundOf 29 = .ok (.ireturn, 1) := by decide +kernel
theorem dX6_burnsAt_0 : decode cX6_burnsAt 0 = .ok (.aload_n 0, 1) := by decide +kernel
theorem dX6_burnsAt_1 : decode cX6_burnsAt 1 = .ok (.getfield 16, 3) := by decide +kernel
theorem dX6_burnsAt_4 : decode cX6_burnsAt 4 = .ok (.iload_n 1, 1) := by decide +kernel
theorem dX6_burnsAt_5 : decode cX6_burnsAt 5 = .ok (.iaload, 1) := by decide +kernel
theorem dX6_burnsAt_6 : decode cX6_burnsAt 6 = .ok (.iconst 3, 1) := by decide +kernel
theorem dX6_burnsAt_7 : decode cX6_burnsAt 7 = .ok (.if_icmp .ne 7, 3) := by decide +kernel
theorem dX6_burnsAt_10 : decode cX6_burnsAt 10 = .ok (.iconst 3, 1) := by decide +kernel
theorem dX6_burnsAt_11 : decode cX6_burnsAt 11 = .ok (.goto 4, 3) := by decide +kernel
theorem dX6_burnsAt_14 : decode cX6_burnsAt 14 = .ok (.iconst 1, 1) := by decide +kernel
theorem dX6_burnsAt_15 : decode cX6_burnsAt 15 = .ok (.ireturn, 1) := by decide +kernel
theorem dX6_whoIsAt_0 : decode cX6_whoIsAt 0 = .ok (.iconst 0, 1) := by decide +kernel
theorem dX6_whoIsAt_1 : decode cX6_whoIsAt 1 = .ok (.istore_n 2, 1) := by decide +kernel
theorem dX6_whoIsAt_2 : decode cX6_whoIsAt 2 = .ok (.iconst 0, 1) := by decide +kernel
theorem dX6_whoIsAt_3 : decode cX6_whoIsAt 3 = .ok (.istore_n 3, 1) := by decide +kernel
theorem dX6_whoIsAt_4 : decode cX6_whoIsAt 4 = .ok (.iload_n 3, 1) := by decide +kernel
theorem dX6_whoIsAt_5 : decode cX6_whoIsAt 5 = .ok (.aload_n 0, 1) := by decide +kernel
theorem dX6_whoIsAt_6 : decode cX6_whoIsAt 6 = .ok (.getfield 90, 3) := by decide +kernel
theorem dX6_whoIsAt_9 : decode cX6_whoIsAt 9 = .ok (.if_icmp .ge 31, 3) := by decide +kernel
theorem dX6_whoIsAt_12 : decode cX6_whoIsAt 12 = .ok (.iload_n 2, 1) := by decide +kernel
theorem dX6_whoIsAt_13 : decode cX6_whoIsAt 13 = .ok (.aload_n 0, 1) := by decide +kernel
theorem dX6_whoIsAt_14 : decode cX6_whoIsAt 14 = .ok (.getfield 22, 3) := by decide +kernel
theorem dX6_whoIsAt_17 : decode cX6_whoIsAt 17 = .ok (.iconst 4, 1) := by decide +kernel
theorem dX6_whoIsAt_18 : decode cX6_whoIsAt 18 = .ok (.iload_n 3, 1) := by decide +kernel
theorem dX6_whoIsAt_19 : decode cX6_whoIsAt 19 = .ok (.imul, 1) := by decide +kernel
theorem dX6_whoIsAt_20 : decode cX6_whoIsAt 20 = .ok (.iaload, 1) := by decide +kernel
theorem dX6_whoIsAt_21 : decode cX6_whoIsAt 21 = .ok (.iload_n 1, 1) := by decide +kernel
theorem dX6_whoIsAt_22 : decode cX6_whoIsAt 22 = .ok (.if_icmp .ne 9, 3) := by decide +kernel
theorem dX6_whoIsAt_25 : decode cX6_whoIsAt 25 = .ok (.iconst 1, 1) := by decide +kernel
theorem dX6_whoIsAt_26 : decode cX6_whoIsAt 26 = .ok (.iload_n 3, 1) := by decide +kernel
theorem dX6_whoIsAt_27 : decode cX6_whoIsAt 27 = .ok (.ishl, 1) := by decide +kernel
theorem dX6_whoIsAt_28 : decode cX6_whoIsAt 28 = .ok (.goto 4, 3) := by decide +kernel
theorem dX6_whoIsAt_31 : decode cX6_whoIsAt 31 = .ok (.iconst 0, 1) := by decide +kernel
theorem dX6_whoIsAt_32 : decode cX6_whoIsAt 32 = .ok (.ior, 1) := by decide +kernel
theorem dX6_whoIsAt_33 : decode cX6_whoIsAt 33 = .ok (.istore_n 2, 1) := by decide +kernel
theorem dX6_whoIsAt_34 : decode cX6_whoIsAt 34 = .ok (.iinc 3 1, 3) := by decide +kernel
theorem dX6_whoIsAt_37 : decode cX6_whoIsAt 37 = .ok (.goto (-33), 3) := by decide +kernel
theorem dX6_whoIsAt_40 : decode cX6_whoIsAt 40 = .ok (.iload_n 2, 1) := by decide +kernel
theorem dX6_whoIsAt_41 : decode cX6_whoIsAt 41 = .ok (.ireturn, 1) := by decide +kernel
theorem dX6_tellCrossing_0 : decode cX6_tellCrossing 0 = .ok (.iload_n 2, 1) := by decide +kernel
theorem dX6_tellCrossing_1 : decode cX6_tellCrossing 1 = .ok (.tableswitch 77 0 5 #[39, 46, 46, 59, 65, 71], 39) := by decide +kernel
theorem dX6_tellCrossing_40 : decode cX6_tellCrossing 40 = .ok (.aload_n 0, 1) := by decide +kernel
theorem dX6_tellCrossing_41 : decode cX6_tellCrossing 41 = .ok (.getfield 16, 3) := by decide +kernel
theorem dX6_tellCrossing_44 : decode cX6_tellCrossing 44 = .ok (.iload_n 1, 1) := by decide +kernel
theorem dX6_tellCrossing_45 : decode cX6_tellCrossing 45 = .ok (.iaload, 1) := by decide +kernel
theorem dX6_tellCrossing_46 : decode cX6_tellCrossing 46 = .ok (.ireturn, 1) := by decide +kernel
theorem dX6_tellCrossing_47 : decode cX6_tellCrossing 47 = .ok (.aload_n 0, 1) := by decide +kernel
theorem dX6_tellCrossing_48 : decode cX6_tellCrossing 48 = .ok (.getfield 19, 3) := by decide +kernel
theorem dX6_tellCrossing_51 : decode cX6_tellCrossing 51 = .ok (.iconst 2, 1) := by decide +kernel
theorem dX6_tellCrossing_52 : decode cX6_tellCrossing 52 = .ok (.iload_n 1, 1) := by decide +kernel
theorem dX6_tellCrossing_53 : decode cX6_tellCrossing 53 = .ok (.imul, 1) := by decide +kernel
theorem dX6_tellCrossing_54 : decode cX6_tellCrossing 54 = .ok (.iload_n 2, 1) := by decide +kernel
theorem dX6_tellCrossing_55 : decode cX6_tellCrossing 55 = .ok (.iadd, 1) := by decide +kernel
theorem dX6_tellCrossing_56 : decode cX6_tellCrossing 56 = .ok (.iconst 1, 1) := by decide +kernel
theorem dX6_tellCrossing_57 : decode cX6_tellCrossing 57 = .ok (.isub, 1) := by decide +kernel
theorem dX6_tellCrossing_58 : decode cX6_tellCrossing 58 = .ok (.iaload, 1) := by decide +kernel
theorem dX6_tellCrossing_59 : decode cX6_tellCrossing 59 = .ok (.ireturn, 1) := by decide +kernel
theorem dX6_tellCrossing_60 : decode cX6_tellCrossing 60 = .ok (.aload_n 0, 1) := by decide +kernel
theorem dX6_tellCrossing_61 : decode cX6_tellCrossing 61 = .ok (.iload_n 1, 1) := by decide +kernel
theorem dX6_tellCrossing_62 : decode cX6_tellCrossing 62 = .ok (.invokevirtual 99, 3) := by decide +kernel
theorem dX6_tellCrossing_65 : decode cX6_tellCrossing 65 = .ok (.ireturn, 1) := by decide +kernel
theorem dX6_tellCrossing_66 : decode cX6_tellCrossing 66 = .ok (.aload_n 0, 1) := by decide +kernel
theorem dX6_tellCrossing_67 : decode cX6_tellCrossing 67 = .ok (.iload_n 1, 1) := by decide +kernel
theorem dX6_tellCrossing_68 : decode cX6_tellCrossing 68 = .ok (.invokevirtual 102, 3) := by decide +kernel
theorem dX6_tellCrossing_71 : decode cX6_tellCrossing 71 = .ok (.ireturn, 1) := by decide +kernel
theorem dX6_tellCrossing_72 : decode cX6_tellCrossing 72 = .ok (.aload_n 0, 1) := by decide +kernel
theorem dX6_tellCrossing_73 : decode cX6_tellCrossing 73 = .ok (.iload_n 1, 1) := by decide +kernel
theorem dX6_tellCrossing_74 : decode cX6_tellCrossing 74 = .ok (.invokevirtual 105, 3) := by decide +kernel
theorem dX6_tellCrossing_77 : decode cX6_tellCrossing 77 = .ok (.ireturn, 1) := by decide +kernel
theorem dX6_tellCrossing_78 : decode cX6_tellCrossing 78 = .ok (.bipush (-102), 2) := by decide +kernel
theorem dX6_tellCrossing_80 : decode cX6_tellCrossing 80 = .ok (.ireturn, 1) := by decide +kernel
theorem dX6_crossing_0 : decode cX6_crossing 0 = .ok (.aload_n 0, 1) := by decide +kernel
theorem dX6_crossing_1 : decode cX6_crossing 1 = .ok (.iload_n 1, 1) := by decide +kernel
theorem dX6_crossing_2 : decode cX6_crossing 2 = .ok (.invokevirtual 108, 3) := by decide +kernel
theorem dX6_crossing_5 : decode cX6_crossing 5 = .ok (.ifCond .eq 12, 3) := by decide +kernel
theorem dX6_crossing_8 : decode cX6_crossing 8 = .ok (.aload_n 0, 1) := by decide +kernel
theorem dX6_crossing_9 : decode cX6_crossing 9 = .ok (.iload_n 1, 1) := by decide +kernel
theorem dX6_crossing_10 : decode cX6_crossing 10 = .ok (.iload_n 2, 1) := by decide +kernel
theorem dX6_crossing_11 : decode cX6_crossing 11 = .ok (.invokevirtual 111, 3) := by decide +kernel
theorem dX6_crossing_14 : decode cX6_crossing 14 = .ok (.goto 5, 3) := by decide +kernel
theorem dX6_crossing_17 : decode cX6_crossing 17 = .ok (.bipush (-101), 2) := by decide +kernel
theorem dX6_crossing_19 : decode cX6_crossing 19 = .ok (.ireturn, 1) := by decide +kernel
theorem dX6_as_0 : decode cX6_as 0 = .ok (.aload_n 0, 1) := by decide +kernel
theorem dX6_as_1 : decode cX6_as 1 = .ok (.iload_n 1, 1) := by decide +kernel
theorem dX6_as_2 : decode cX6_as 2 = .ok (.invokevirtual 108, 3) := by decide +kernel
theorem dX6_as_5 : decode cX6_as 5 = .ok (.ifCond .ne 6, 3) := by decide +kernel
theorem dX6_as_8 : decode cX6_as 8 = .ok (.bipush (-101), 2) := by decide +kernel
theorem dX6_as_10 : decode cX6_as 10 = .ok (.ireturn, 1) := by decide +kernel
theorem dX6_as_11 : decode cX6_as 11 = .ok (.iload_n 2, 1) := by decide +kernel
theorem dX6_as_12 : decode cX6_as 12 = .ok (.i2l, 1) := by decide +kernel
theorem dX6_as_13 : decode cX6_as 13 = .ok (.lconst 0, 1) := by decide +kernel
theorem dX6_as_14 : decode cX6_as 14 = .ok (.ldc2_w 115, 3) := by decide +kernel
theorem dX6_as_17 : decode cX6_as 17 = .ok (.invokestatic 49, 3) := by decide +kernel
theorem dX6_as_20 : decode cX6_as 20 = .ok (.ifCond .ne 6, 3) := by decide +kernel
theorem dX6_as_23 : decode cX6_as 23 = .ok (.bipush (-102), 2) := by decide +kernel
theorem dX6_as_25 : decode cX6_as 25 = .ok (.ireturn, 1) := by decide +kernel
theorem dX6_as_26 : decode cX6_as 26 = .ok (.iload_n 2, 1) := by decide +kernel
theorem dX6_as_27 : decode cX6_as 27 = .ok (.ifCond .eq 28, 3) := by decide +kernel
theorem dX6_as_30 : decode cX6_as 30 = .ok (.iload_n 2, 1) := by decide +kernel
theorem dX6_as_31 : decode cX6_as 31 = .ok (.aload_n 0, 1) := by decide +kernel
theorem dX6_as_32 : decode cX6_as 32 = .ok (.getfield 16, 3) := by decide +kernel
theorem dX6_as_35 : decode cX6_as 35 = .ok (.iload_n 1, 1) := by decide +kernel
theorem dX6_as_36 : decode cX6_as 36 = .ok (.iaload, 1) := by decide +kernel
theorem dX6_as_37 : decode cX6_as 37 = .ok (.if_icmp .eq 18, 3) := by decide +kernel
theorem dX6_as_40 : decode cX6_as 40 = .ok (.iload_n 2, 1) := by decide +kernel
theorem dX6_as_41 : decode cX6_as 41 = .ok (.iconst 1, 1) := by decide +kernel
theorem dX6_as_42 : decode cX6_as 42 = .ok (.if_icmp .ne 17, 3) := by decide +kernel
theorem dX6_as_45 : decode cX6_as 45 = .ok (.aload_n 0, 1) := by decide +kernel
theorem dX6_as_46 : decode cX6_as 46 = .ok (.getfield 16, 3) := by decide +kernel
theorem dX6_as_49 : decode cX6_as 49 = .ok (.iload_n 1, 1) := by decide +kernel
theorem dX6_as_50 : decode cX6_as 50 = .ok (.iaload, 1) := by decide +kernel
theorem dX6_as_51 : decode cX6_as 51 = .ok (.iconst 4, 1) := by decide +kernel
theorem dX6_as_52 : decode cX6_as 52 = .ok (.if_icmp .ne 7, 3) := by decide +kernel
theorem dX6_as_55 : decode cX6_as 55 = .ok (.iconst 1, 1) := by decide +kernel
theorem dX6_as_56 : decode cX6_as 56 = .ok (.goto 4, 3) := by decide +kernel
theorem dX6_as_59 : decode cX6_as 59 = .ok (.iconst 0, 1) := by decide +kernel
theorem dX6_as_60 : decode cX6_as 60 = .ok (.istore_n 3, 1) := by decide +kernel
theorem dX6_as_61 : decode cX6_as 61 = .ok (.iload_n 3, 1) := by decide +kernel
theorem dX6_as_62 : decode cX6_as 62 = .ok (.ifCond .eq 7, 3) := by decide +kernel
theorem dX6_as_65 : decode cX6_as 65 = .ok (.iload_n 1, 1) := by decide +kernel
theorem dX6_as_66 : decode cX6_as 66 = .ok (.goto 4, 3) := by decide +kernel
theorem dX6_as_69 : decode cX6_as 69 = .ok (.iconst (-1), 1) := by decide +kernel
theorem dX6_as_70 : decode cX6_as 70 = .ok (.ireturn, 1) := by decide +kernel
theorem dX6_isParty_0 : decode cX6_isParty 0 = .ok (.iload_n 1, 1) := by decide +kernel
theorem dX6_isParty_1 : decode cX6_isParty 1 = .ok (.i2l, 1) := by decide +kernel
theorem dX6_isParty_2 : decode cX6_isParty 2 = .ok (.lconst 0, 1) := by decide +kernel
theorem dX6_isParty_3 : decode cX6_isParty 3 = .ok (.aload_n 0, 1) := by decide +kernel
theorem dX6_isParty_4 : decode cX6_isParty 4 = .ok (.getfield 90, 3) := by decide +kernel
theorem dX6_isParty_7 : decode cX6_isParty 7 = .ok (.iconst 1, 1) := by decide +kernel
theorem dX6_isParty_8 : decode cX6_isParty 8 = .ok (.isub, 1) := by decide +kernel
theorem dX6_isParty_9 : decode cX6_isParty 9 = .ok (.i2l, 1) := by decide +kernel
theorem dX6_isParty_10 : decode cX6_isParty 10 = .ok (.invokestatic 49, 3) := by decide +kernel
theorem dX6_isParty_13 : decode cX6_isParty 13 = .ok (.ireturn, 1) := by decide +kernel
theorem dX6_party_0 : decode cX6_party 0 = .ok (.aload_n 0, 1) := by decide +kernel
theorem dX6_party_1 : decode cX6_party 1 = .ok (.iload_n 1, 1) := by decide +kernel
theorem dX6_party_2 : decode cX6_party 2 = .ok (.invokevirtual 108, 3) := by decide +kernel
theorem dX6_party_5 : decode cX6_party 5 = .ok (.ifCond .ne 6, 3) := by decide +kernel
theorem dX6_party_8 : decode cX6_party 8 = .ok (.bipush (-101), 2) := by decide +kernel
theorem dX6_party_10 : decode cX6_party 10 = .ok (.ireturn, 1) := by decide +kernel
theorem dX6_party_11 : decode cX6_party 11 = .ok (.aload_n 0, 1) := by decide +kernel
theorem dX6_party_12 : decode cX6_party 12 = .ok (.getfield 90, 3) := by decide +kernel
theorem dX6_party_15 : decode cX6_party 15 = .ok (.iconst 3, 1) := by decide +kernel
theorem dX6_party_16 : decode cX6_party 16 = .ok (.if_icmp .ne 6, 3) := by decide +kernel
theorem dX6_party_19 : decode cX6_party 19 = .ok (.bipush (-104), 2) := by decide +kernel
theorem dX6_party_21 : decode cX6_party 21 = .ok (.ireturn, 1) := by decide +kernel
theorem dX6_party_22 : decode cX6_party 22 = .ok (.aload_n 0, 1) := by decide +kernel
theorem dX6_party_23 : decode cX6_party 23 = .ok (.getfield 22, 3) := by decide +kernel
theorem dX6_party_26 : decode cX6_party 26 = .ok (.iconst 4, 1) := by decide +kernel
theorem dX6_party_27 : decode cX6_party 27 = .ok (.aload_n 0, 1) := by decide +kernel
theorem dX6_party_28 : decode cX6_party 28 = .ok (.getfield 90, 3) := by decide +kernel
theorem dX6_party_31 : decode cX6_party 31 = .ok (.imul, 1) := by decide +kernel
theorem dX6_party_32 : decode cX6_party 32 = .ok (.iload_n 1, 1) := by decide +kernel
theorem dX6_party_33 : decode cX6_party 33 = .ok (.iastore, 1) := by decide +kernel
theorem dX6_party_34 : decode cX6_party 34 = .ok (.aload_n 0, 1) := by decide +kernel
theorem dX6_party_35 : decode cX6_party 35 = .ok (.getfield 22, 3) := by decide +kernel
theorem dX6_party_38 : decode cX6_party 38 = .ok (.iconst 4, 1) := by decide +kernel
theorem dX6_party_39 : decode cX6_party 39 = .ok (.aload_n 0, 1) := by decide +kernel
theorem dX6_party_40 : decode cX6_party 40 = .ok (.getfield 90, 3) := by decide +kernel
theorem dX6_party_43 : decode cX6_party 43 = .ok (.imul, 1) := by decide +kernel
theorem dX6_party_44 : decode cX6_party 44 = .ok (.iconst 1, 1) := by decide +kernel
theorem dX6_party_45 : decode cX6_party 45 = .ok (.iadd, 1) := by decide +kernel
theorem dX6_party_46 : decode cX6_party 46 = .ok (.aload_n 0, 1) := by decide +kernel
theorem dX6_party_47 : decode cX6_party 47 = .ok (.getfield 87, 3) := by decide +kernel
theorem dX6_party_50 : decode cX6_party 50 = .ok (.iastore, 1) := by decide +kernel
theorem dX6_party_51 : decode cX6_party 51 = .ok (.aload_n 0, 1) := by decide +kernel
theorem dX6_party_52 : decode cX6_party 52 = .ok (.getfield 22, 3) := by decide +kernel
theorem dX6_party_55 : decode cX6_party 55 = .ok (.iconst 4, 1) := by decide +kernel
theorem dX6_party_56 : decode cX6_party 56 = .ok (.aload_n 0, 1) := by decide +kernel
theorem dX6_party_57 : decode cX6_party 57 = .ok (.getfield 90, 3) := by decide +kernel
theorem dX6_party_60 : decode cX6_party 60 = .ok (.imul, 1) := by decide +kernel
theorem dX6_party_61 : decode cX6_party 61 = .ok (.iconst 2, 1) := by decide +kernel
theorem dX6_party_62 : decode cX6_party 62 = .ok (.iadd, 1) := by decide +kernel
theorem dX6_party_63 : decode cX6_party 63 = .ok (.iconst 0, 1) := by decide +kernel
theorem dX6_party_64 : decode cX6_party 64 = .ok (.iastore, 1) := by decide +kernel
theorem dX6_party_65 : decode cX6_party 65 = .ok (.aload_n 0, 1) := by decide +kernel
theorem dX6_party_66 : decode cX6_party 66 = .ok (.getfield 22, 3) := by decide +kernel
theorem dX6_party_69 : decode cX6_party 69 = .ok (.iconst 4, 1) := by decide +kernel
theorem dX6_party_70 : decode cX6_party 70 = .ok (.aload_n 0, 1) := by decide +kernel
theorem dX6_party_71 : decode cX6_party 71 = .ok (.getfield 90, 3) := by decide +kernel
theorem dX6_party_74 : decode cX6_party 74 = .ok (.imul, 1) := by decide +kernel
theorem dX6_party_75 : decode cX6_party 75 = .ok (.iconst 3, 1) := by decide +kernel
theorem dX6_party_76 : decode cX6_party 76 = .ok (.iadd, 1) := by decide +kernel
theorem dX6_party_77 : decode cX6_party 77 = .ok (.iconst (-1), 1) := by decide +kernel
theorem dX6_party_78 : decode cX6_party 78 = .ok (.iastore, 1) := by decide +kernel
theorem dX6_party_79 : decode cX6_party 79 = .ok (.aload_n 0, 1) := by decide +kernel
theorem dX6_party_80 : decode cX6_party 80 = .ok (.dup, 1) := by decide +kernel
theorem dX6_party_81 : decode cX6_party 81 = .ok (.getfield 90, 3) := by decide +kernel
theorem dX6_party_84 : decode cX6_party 84 = .ok (.iconst 1, 1) := by decide +kernel
theorem dX6_party_85 : decode cX6_party 85 = .ok (.iadd, 1) := by decide +kernel
theorem dX6_party_86 : decode cX6_party 86 = .ok (.putfield 90, 3) := by decide +kernel
theorem dX6_party_89 : decode cX6_party 89 = .ok (.aload_n 0, 1) := by decide +kernel
theorem dX6_party_90 : decode cX6_party 90 = .ok (.getfield 90, 3) := by decide +kernel
theorem dX6_party_93 : decode cX6_party 93 = .ok (.iconst 1, 1) := by decide +kernel
theorem dX6_party_94 : decode cX6_party 94 = .ok (.isub, 1) := by decide +kernel
theorem dX6_party_95 : decode cX6_party 95 = .ok (.ireturn, 1) := by decide +kernel
theorem dX6_sinceOf_0 : decode cX6_sinceOf 0 = .ok (.aload_n 0, 1) := by decide +kernel
theorem dX6_sinceOf_1 : decode cX6_sinceOf 1 = .ok (.getfield 22, 3) := by decide +kernel
theorem dX6_sinceOf_4 : decode cX6_sinceOf 4 = .ok (.iconst 4, 1) := by decide +kernel
theorem dX6_sinceOf_5 : decode cX6_sinceOf 5 = .ok (.iload_n 1, 1) := by decide +kernel
theorem dX6_sinceOf_6 : decode cX6_sinceOf 6 = .ok (.imul, 1) := by decide +kernel
theorem dX6_sinceOf_7 : decode cX6_sinceOf 7 = .ok (.iconst 3, 1) := by decide +kernel
theorem dX6_sinceOf_8 : decode cX6_sinceOf 8 = .ok (.iadd, 1) := by decide +kernel
theorem dX6_sinceOf_9 : decode cX6_sinceOf 9 = .ok (.iaload, 1) := by decide +kernel
theorem dX6_sinceOf_10 : decode cX6_sinceOf 10 = .ok (.iconst (-1), 1) := by decide +kernel
theorem dX6_sinceOf_11 : decode cX6_sinceOf 11 = .ok (.if_icmp .ne 7, 3) := by decide +kernel
theorem dX6_sinceOf_14 : decode cX6_sinceOf 14 = .ok (.iconst (-1), 1) := by decide +kernel
theorem dX6_sinceOf_15 : decode cX6_sinceOf 15 = .ok (.goto 24, 3) := by decide +kernel
theorem dX6_sinceOf_18 : decode cX6_sinceOf 18 = .ok (.aload_n 0, 1) := by decide +kernel
theorem dX6_sinceOf_19 : decode cX6_sinceOf 19 = .ok (.getfield 22, 3) := by decide +kernel
theorem dX6_sinceOf_22 : decode cX6_sinceOf 22 = .ok (.iconst 4, 1) := by decide +kernel
theorem dX6_sinceOf_23 : decode cX6_sinceOf 23 = .ok (.iload_n 1, 1) := by decide +kernel
theorem dX6_sinceOf_24 : decode cX6_sinceOf 24 = .ok (.imul, 1) := by decide +kernel
theorem dX6_sinceOf_25 : decode cX6_sinceOf 25 = .ok (.iconst 2, 1) := by decide +kernel
theorem dX6_sinceOf_26 : decode cX6_sinceOf 26 = .ok (.iadd, 1) := by decide +kernel
theorem dX6_sinceOf_27 : decode cX6_sinceOf 27 = .ok (.iaload, 1) := by decide +kernel
theorem dX6_sinceOf_28 : decode cX6_sinceOf 28 = .ok (.aload_n 0, 1) := by decide +kernel
theorem dX6_sinceOf_29 : decode cX6_sinceOf 29 = .ok (.getfield 22, 3) := by decide +kernel
theorem dX6_sinceOf_32 : decode cX6_sinceOf 32 = .ok (.iconst 4, 1) := by decide +kernel
theorem dX6_sinceOf_33 : decode cX6_sinceOf 33 = .ok (.iload_n 1, 1) := by decide +kernel
theorem dX6_sinceOf_34 : decode cX6_sinceOf 34 = .ok (.imul, 1) := by decide +kernel
theorem dX6_sinceOf_35 : decode cX6_sinceOf 35 = .ok (.iconst 3, 1) := by decide +kernel
theorem dX6_sinceOf_36 : decode cX6_sinceOf 36 = .ok (.iadd, 1) := by decide +kernel
theorem dX6_sinceOf_37 : decode cX6_sinceOf 37 = .ok (.iaload, 1) := by decide +kernel
theorem dX6_sinceOf_38 : decode cX6_sinceOf 38 = .ok (.isub, 1) := by decide +kernel
theorem dX6_sinceOf_39 : decode cX6_sinceOf 39 = .ok (.ireturn, 1) := by decide +kernel
theorem dX6_mayLook_0 : decode cX6_mayLook 0 = .ok (.aload_n 0, 1) := by decide +kernel
theorem dX6_mayLook_1 : decode cX6_mayLook 1 = .ok (.getfield 22, 3) := by decide +kernel
theorem dX6_mayLook_4 : decode cX6_mayLook 4 = .ok (.iconst 4, 1) := by decide +kernel
theorem dX6_mayLook_5 : decode cX6_mayLook 5 = .ok (.iload_n 1, 1) := by decide +kernel
theorem dX6_mayLook_6 : decode cX6_mayLook 6 = .ok (.imul, 1) := by decide +kernel
theorem dX6_mayLook_7 : decode cX6_mayLook 7 = .ok (.iconst 1, 1) := by decide +kernel
theorem dX6_mayLook_8 : decode cX6_mayLook 8 = .ok (.iadd, 1) := by decide +kernel
theorem dX6_mayLook_9 : decode cX6_mayLook 9 = .ok (.iaload, 1) := by decide +kernel
theorem dX6_mayLook_10 : decode cX6_mayLook 10 = .ok (.ifCond .le 25, 3) := by decide +kernel
theorem dX6_mayLook_13 : decode cX6_mayLook 13 = .ok (.aload_n 0, 1) := by decide +kernel
theorem dX6_mayLook_14 : decode cX6_mayLook 14 = .ok (.iload_n 1, 1) := by decide +kernel
theorem dX6_mayLook_15 : decode cX6_mayLook 15 = .ok (.invokevirtual 117, 3) := by decide +kernel
theorem dX6_mayLook_18 : decode cX6_mayLook 18 = .ok (.iconst (-1), 1) := by decide +kernel
theorem dX6_mayLook_19 : decode cX6_mayLook 19 = .ok (.if_icmp .eq 12, 3) := by decide +kernel
theorem dX6_mayLook_22 : decode cX6_mayLook 22 = .ok (.aload_n 0, 1) := by decide +kernel
theorem dX6_mayLook_23 : decode cX6_mayLook 23 = .ok (.iload_n 1, 1) := by decide +kernel
theorem dX6_mayLook_24 : decode cX6_mayLook 24 = .ok (.invokevirtual 117, 3) := by decide +kernel
theorem dX6_mayLook_27 : decode cX6_mayLook 27 = .ok (.iconst 2, 1) := by decide +kernel
theorem dX6_mayLook_28 : decode cX6_mayLook 28 = .ok (.if_icmp .lt 7, 3) := by decide +kernel
theorem dX6_mayLook_31 : decode cX6_mayLook 31 = .ok (.iconst 1, 1) := by decide +kernel
theorem dX6_mayLook_32 : decode cX6_mayLook 32 = .ok (.goto 4, 3) := by decide +kernel
theorem dX6_mayLook_35 : decode cX6_mayLook 35 = .ok (.iconst 0, 1) := by decide +kernel
theorem dX6_mayLook_36 : decode cX6_mayLook 36 = .ok (.ireturn, 1) := by decide +kernel
theorem dX6_tell_0 : decode cX6_tell 0 = .ok (.iload_n 2, 1) := by decide +kernel
theorem dX6_tell_1 : decode cX6_tell 1 = .ok (.tableswitch 66 0 4 #[35, 35, 35, 46, 52], 35) := by decide +kernel
theorem dX6_tell_36 : decode cX6_tell 36 = .ok (.aload_n 0, 1) := by decide +kernel
theorem dX6_tell_37 : decode cX6_tell 37 = .ok (.getfield 22, 3) := by decide +kernel
theorem dX6_tell_40 : decode cX6_tell 40 = .ok (.iconst 4, 1) := by decide +kernel
theorem dX6_tell_41 : decode cX6_tell 41 = .ok (.iload_n 1, 1) := by decide +kernel
theorem dX6_tell_42 : decode cX6_tell 42 = .ok (.imul, 1) := by decide +kernel
theorem dX6_tell_43 : decode cX6_tell 43 = .ok (.iload_n 2, 1) := by decide +kernel
theorem dX6_tell_44 : decode cX6_tell 44 = .ok (.iadd, 1) := by decide +kernel
theorem dX6_tell_45 : decode cX6_tell 45 = .ok (.iaload, 1) := by decide +kernel
theorem dX6_tell_46 : decode cX6_tell 46 = .ok (.ireturn, 1) := by decide +kernel
theorem dX6_tell_47 : decode cX6_tell 47 = .ok (.aload_n 0, 1) := by decide +kernel
theorem dX6_tell_48 : decode cX6_tell 48 = .ok (.iload_n 1, 1) := by decide +kernel
theorem dX6_tell_49 : decode cX6_tell 49 = .ok (.invokevirtual 117, 3) := by decide +kernel
theorem dX6_tell_52 : decode cX6_tell 52 = .ok (.ireturn, 1) := by decide +kernel
theorem dX6_tell_53 : decode cX6_tell 53 = .ok (.aload_n 0, 1) := by decide +kernel
theorem dX6_tell_54 : decode cX6_tell 54 = .ok (.iload_n 1, 1) := by decide +kernel
theorem dX6_tell_55 : decode cX6_tell 55 = .ok (.invokevirtual 120, 3) := by decide +kernel
theorem dX6_tell_58 : decode cX6_tell 58 = .ok (.ifCond .eq 7, 3) := by decide +kernel
theorem dX6_tell_61 : decode cX6_tell 61 = .ok (.iconst 1, 1) := by decide +kernel
theorem dX6_tell_62 : decode cX6_tell 62 = .ok (.goto 4, 3) := by decide +kernel
theorem dX6_tell_65 : decode cX6_tell 65 = .ok (.iconst 0, 1) := by decide +kernel
theorem dX6_tell_66 : decode cX6_tell 66 = .ok (.ireturn, 1) := by decide +kernel
theorem dX6_tell_67 : decode cX6_tell 67 = .ok (.bipush (-102), 2) := by decide +kernel
theorem dX6_tell_69 : decode cX6_tell 69 = .ok (.ireturn, 1) := by decide +kernel
theorem dX6_about_0 : decode cX6_about 0 = .ok (.aload_n 0, 1) := by decide +kernel
theorem dX6_about_1 : decode cX6_about 1 = .ok (.iload_n 1, 1) := by decide +kernel
theorem dX6_about_2 : decode cX6_about 2 = .ok (.invokevirtual 123, 3) := by decide +kernel
theorem dX6_about_5 : decode cX6_about 5 = .ok (.ifCond .eq 12, 3) := by decide +kernel
theorem dX6_about_8 : decode cX6_about 8 = .ok (.aload_n 0, 1) := by decide +kernel
theorem dX6_about_9 : decode cX6_about 9 = .ok (.iload_n 1, 1) := by decide +kernel
theorem dX6_about_10 : decode cX6_about 10 = .ok (.iload_n 2, 1) := by decide +kernel
theorem dX6_about_11 : decode cX6_about 11 = .ok (.invokevirtual 126, 3) := by decide +kernel
theorem dX6_about_14 : decode cX6_about 14 = .ok (.goto 5, 3) := by decide +kernel
theorem dX6_about_17 : decode cX6_about 17 = .ok (.bipush (-101), 2) := by decide +kernel
theorem dX6_about_19 : decode cX6_about 19 = .ok (.ireturn, 1) := by decide +kernel
theorem dX6_step_0 : decode cX6_step 0 = .ok (.aload_n 0, 1) := by decide +kernel
theorem dX6_step_1 : decode cX6_step 1 = .ok (.iload_n 1, 1) := by decide +kernel
theorem dX6_step_2 : decode cX6_step 2 = .ok (.invokevirtual 123, 3) := by decide +kernel
theorem dX6_step_5 : decode cX6_step 5 = .ok (.ifCond .ne 6, 3) := by decide +kernel
theorem dX6_step_8 : decode cX6_step 8 = .ok (.bipush (-101), 2) := by decide +kernel
theorem dX6_step_10 : decode cX6_step 10 = .ok (.ireturn, 1) := by decide +kernel
theorem dX6_step_11 : decode cX6_step 11 = .ok (.iload_n 2, 1) := by decide +kernel
theorem dX6_step_12 : decode cX6_step 12 = .ok (.i2l, 1) := by decide +kernel
theorem dX6_step_13 : decode cX6_step 13 = .ok (.lconst 0, 1) := by decide +kernel
theorem dX6_step_14 : decode cX6_step 14 = .ok (.lconst 1, 1) := by decide +kernel
theorem dX6_step_15 : decode cX6_step 15 = .ok (.invokestatic 49, 3) := by decide +kernel
theorem dX6_step_18 : decode cX6_step 18 = .ok (.ifCond .ne 6, 3) := by decide +kernel
theorem dX6_step_21 : decode cX6_step 21 = .ok (.bipush (-102), 2) := by decide +kernel
theorem dX6_step_23 : decode cX6_step 23 = .ok (.ireturn, 1) := by decide +kernel
theorem dX6_step_24 : decode cX6_step 24 = .ok (.aload_n 0, 1) := by decide +kernel
theorem dX6_step_25 : decode cX6_step 25 = .ok (.getfield 19, 3) := by decide +kernel
theorem dX6_step_28 : decode cX6_step 28 = .ok (.iconst 2, 1) := by decide +kernel
theorem dX6_step_29 : decode cX6_step 29 = .ok (.aload_n 0, 1) := by decide +kernel
theorem dX6_step_30 : decode cX6_step 30 = .ok (.getfield 22, 3) := by decide +kernel
theorem dX6_step_33 : decode cX6_step 33 = .ok (.iconst 4, 1) := by decide +kernel
theorem dX6_step_34 : decode cX6_step 34 = .ok (.iload_n 1, 1) := by decide +kernel
theorem dX6_step_35 : decode cX6_step 35 = .ok (.imul, 1) := by decide +kernel
theorem dX6_step_36 : decode cX6_step 36 = .ok (.iaload, 1) := by decide +kernel
theorem dX6_step_37 : decode cX6_step 37 = .ok (.imul, 1) := by decide +kernel
theorem dX6_step_38 : decode cX6_step 38 = .ok (.iload_n 2, 1) := by decide +kernel
theorem dX6_step_39 : decode cX6_step 39 = .ok (.iadd, 1) := by decide +kernel
theorem dX6_step_40 : decode cX6_step 40 = .ok (.iaload, 1) := by decide +kernel
theorem dX6_step_41 : decode cX6_step 41 = .ok (.istore_n 3, 1) := by decide +kernel
theorem dX6_step_42 : decode cX6_step 42 = .ok (.aload_n 0, 1) := by decide +kernel
theorem dX6_step_43 : decode cX6_step 43 = .ok (.getfield 22, 3) := by decide +kernel
theorem dX6_step_46 : decode cX6_step 46 = .ok (.iconst 4, 1) := by decide +kernel
theorem dX6_step_47 : decode cX6_step 47 = .ok (.iload_n 1, 1) := by decide +kernel
theorem dX6_step_48 : decode cX6_step 48 = .ok (.imul, 1) := by decide +kernel
theorem dX6_step_49 : decode cX6_step 49 = .ok (.iconst 1, 1) := by decide +kernel
theorem dX6_step_50 : decode cX6_step 50 = .ok (.iadd, 1) := by decide +kernel
theorem dX6_step_51 : decode cX6_step 51 = .ok (.iaload, 1) := by decide +kernel
theorem dX6_step_52 : decode cX6_step 52 = .ok (.aload_n 0, 1) := by decide +kernel
theorem dX6_step_53 : decode cX6_step 53 = .ok (.iload_n 3, 1) := by decide +kernel
theorem dX6_step_54 : decode cX6_step 54 = .ok (.invokevirtual 102, 3) := by decide +kernel
theorem dX6_step_57 : decode cX6_step 57 = .ok (.if_icmp .ge 6, 3) := by decide +kernel
theorem dX6_step_60 : decode cX6_step 60 = .ok (.bipush (-103), 2) := by decide +kernel
theorem dX6_step_62 : decode cX6_step 62 = .ok (.ireturn, 1) := by decide +kernel
theorem dX6_step_63 : decode cX6_step 63 = .ok (.aload_n 0, 1) := by decide +kernel
theorem dX6_step_64 : decode cX6_step 64 = .ok (.getfield 22, 3) := by decide +kernel
theorem dX6_step_67 : decode cX6_step 67 = .ok (.iconst 4, 1) := by decide +kernel
theorem dX6_step_68 : decode cX6_step 68 = .ok (.iload_n 1, 1) := by decide +kernel
theorem dX6_step_69 : decode cX6_step 69 = .ok (.imul, 1) := by decide +kernel
theorem dX6_step_70 : decode cX6_step 70 = .ok (.iload_n 3, 1) := by decide +kernel
theorem dX6_step_71 : decode cX6_step 71 = .ok (.iastore, 1) := by decide +kernel
theorem dX6_step_72 : decode cX6_step 72 = .ok (.aload_n 0, 1) := by decide +kernel
theorem dX6_step_73 : decode cX6_step 73 = .ok (.getfield 22, 3) := by decide +kernel
theorem dX6_step_76 : decode cX6_step 76 = .ok (.iconst 4, 1) := by decide +kernel
theorem dX6_step_77 : decode cX6_step 77 = .ok (.iload_n 1, 1) := by decide +kernel
theorem dX6_step_78 : decode cX6_step 78 = .ok (.imul, 1) := by decide +kernel
theorem dX6_step_79 : decode cX6_step 79 = .ok (.iconst 1, 1) := by decide +kernel
theorem dX6_step_80 : decode cX6_step 80 = .ok (.iadd, 1) := by decide +kernel
theorem dX6_step_81 : decode cX6_step 81 = .ok (.dup2, 1) := by decide +kernel
theorem dX6_step_82 : decode cX6_step 82 = .ok (.iaload, 1) := by decide +kernel
theorem dX6_step_83 : decode cX6_step 83 = .ok (.aload_n 0, 1) := by decide +kernel
theorem dX6_step_84 : decode cX6_step 84 = .ok (.iload_n 3, 1) := by decide +kernel
theorem dX6_step_85 : decode cX6_step 85 = .ok (.invokevirtual 102, 3) := by decide +kernel
theorem dX6_step_88 : decode cX6_step 88 = .ok (.isub, 1) := by decide +kernel
theorem dX6_step_89 : decode cX6_step 89 = .ok (.iastore, 1) := by decide +kernel
theorem dX6_step_90 : decode cX6_step 90 = .ok (.aload_n 0, 1) := by decide +kernel
theorem dX6_step_91 : decode cX6_step 91 = .ok (.getfield 22, 3) := by decide +kernel
theorem dX6_step_94 : decode cX6_step 94 = .ok (.iconst 4, 1) := by decide +kernel
theorem dX6_step_95 : decode cX6_step 95 = .ok (.iload_n 1, 1) := by decide +kernel
theorem dX6_step_96 : decode cX6_step 96 = .ok (.imul, 1) := by decide +kernel
theorem dX6_step_97 : decode cX6_step 97 = .ok (.iconst 2, 1) := by decide +kernel
theorem dX6_step_98 : decode cX6_step 98 = .ok (.iadd, 1) := by decide +kernel
theorem dX6_step_99 : decode cX6_step 99 = .ok (.dup2, 1) := by decide +kernel
theorem dX6_step_100 : decode cX6_step 100 = .ok (.iaload, 1) := by decide +kernel
theorem dX6_step_101 : decode cX6_step 101 = .ok (.iconst 1, 1) := by decide +kernel
theorem dX6_step_102 : decode cX6_step 102 = .ok (.iadd, 1) := by decide +kernel
theorem dX6_step_103 : decode cX6_step 103 = .ok (.iastore, 1) := by decide +kernel
theorem dX6_step_104 : decode cX6_step 104 = .ok (.iload_n 3, 1) := by decide +kernel
theorem dX6_step_105 : decode cX6_step 105 = .ok (.ireturn, 1) := by decide +kernel
theorem dX6_speak_0 : decode cX6_speak 0 = .ok (.aload_n 0, 1) := by decide +kernel
theorem dX6_speak_1 : decode cX6_speak 1 = .ok (.iload_n 1, 1) := by decide +kernel
theorem dX6_speak_2 : decode cX6_speak 2 = .ok (.invokevirtual 123, 3) := by decide +kernel
theorem dX6_speak_5 : decode cX6_speak 5 = .ok (.ifCond .ne 6, 3) := by decide +kernel
theorem dX6_speak_8 : decode cX6_speak 8 = .ok (.bipush (-101), 2) := by decide +kernel
theorem dX6_speak_10 : decode cX6_speak 10 = .ok (.ireturn, 1) := by decide +kernel
theorem dX6_speak_11 : decode cX6_speak 11 = .ok (.aload_n 0, 1) := by decide +kernel
theorem dX6_speak_12 : decode cX6_speak 12 = .ok (.getfield 22, 3) := by decide +kernel
theorem dX6_speak_15 : decode cX6_speak 15 = .ok (.iconst 4, 1) := by decide +kernel
theorem dX6_speak_16 : decode cX6_speak 16 = .ok (.iload_n 1, 1) := by decide +kernel
theorem dX6_speak_17 : decode cX6_speak 17 = .ok (.imul, 1) := by decide +kernel
theorem dX6_speak_18 : decode cX6_speak 18 = .ok (.iconst 3, 1) := by decide +kernel
theorem dX6_speak_19 : decode cX6_speak 19 = .ok (.iadd, 1) := by decide +kernel
theorem dX6_speak_20 : decode cX6_speak 20 = .ok (.aload_n 0, 1) := by decide +kernel
theorem dX6_speak_21 : decode cX6_speak 21 = .ok (.getfield 22, 3) := by decide +kernel
theorem dX6_speak_24 : decode cX6_speak 24 = .ok (.iconst 4, 1) := by decide +kernel
theorem dX6_speak_25 : decode cX6_speak 25 = .ok (.iload_n 1, 1) := by decide +kernel
theorem dX6_speak_26 : decode cX6_speak 26 = .ok (.imul, 1) := by decide +kernel
theorem dX6_speak_27 : decode cX6_speak 27 = .ok (.iconst 2, 1) := by decide +kernel
theorem dX6_speak_28 : decode cX6_speak 28 = .ok (.iadd, 1) := by decide +kernel
theorem dX6_speak_29 : decode cX6_speak 29 = .ok (.iaload, 1) := by decide +kernel
theorem dX6_speak_30 : decode cX6_speak 30 = .ok (.iastore, 1) := by decide +kernel
theorem dX6_speak_31 : decode cX6_speak 31 = .ok (.aload_n 0, 1) := by decide +kernel
theorem dX6_speak_32 : decode cX6_speak 32 = .ok (.aload_n 0, 1) := by decide +kernel
theorem dX6_speak_33 : decode cX6_speak 33 = .ok (.getfield 22, 3) := by decide +kernel
theorem dX6_speak_36 : decode cX6_speak 36 = .ok (.iconst 4, 1) := by decide +kernel
theorem dX6_speak_37 : decode cX6_speak 37 = .ok (.iload_n 1, 1) := by decide +kernel
theorem dX6_speak_38 : decode cX6_speak 38 = .ok (.imul, 1) := by decide +kernel
theorem dX6_speak_39 : decode cX6_speak 39 = .ok (.iaload, 1) := by decide +kernel
theorem dX6_speak_40 : decode cX6_speak 40 = .ok (.invokevirtual 99, 3) := by decide +kernel
theorem dX6_speak_43 : decode cX6_speak 43 = .ok (.ireturn, 1) := by decide +kernel
theorem dX6_look_0 : decode cX6_look 0 = .ok (.aload_n 0, 1) := by decide +kernel
theorem dX6_look_1 : decode cX6_look 1 = .ok (.iload_n 1, 1) := by decide +kernel
theorem dX6_look_2 : decode cX6_look 2 = .ok (.invokevirtual 123, 3) := by decide +kernel
theorem dX6_look_5 : decode cX6_look 5 = .ok (.ifCond .ne 6, 3) := by decide +kernel
theorem dX6_look_8 : decode cX6_look 8 = .ok (.bipush (-101), 2) := by decide +kernel
theorem dX6_look_10 : decode cX6_look 10 = .ok (.ireturn, 1) := by decide +kernel
theorem dX6_look_11 : decode cX6_look 11 = .ok (.aload_n 0, 1) := by decide +kernel
theorem dX6_look_12 : decode cX6_look 12 = .ok (.iload_n 1, 1) := by decide +kernel
theorem dX6_look_13 : decode cX6_look 13 = .ok (.invokevirtual 120, 3) := by decide +kernel
theorem dX6_look_16 : decode cX6_look 16 = .ok (.ifCond .eq 19, 3) := by decide +kernel
theorem dX6_look_19 : decode cX6_look 19 = .ok (.aload_n 0, 1) := by decide +kernel
theorem dX6_look_20 : decode cX6_look 20 = .ok (.getfield 16, 3) := by decide +kernel
theorem dX6_look_23 : decode cX6_look 23 = .ok (.aload_n 0, 1) := by decide +kernel
theorem dX6_look_24 : decode cX6_look 24 = .ok (.getfield 22, 3) := by decide +kernel
theorem dX6_look_27 : decode cX6_look 27 = .ok (.iconst 4, 1) := by decide +kernel
theorem dX6_look_28 : decode cX6_look 28 = .ok (.iload_n 1, 1) := by decide +kernel
theorem dX6_look_29 : decode cX6_look 29 = .ok (.imul, 1) := by decide +kernel
theorem dX6_look_30 : decode cX6_look 30 = .ok (.iaload, 1) := by decide +kernel
theorem dX6_look_31 : decode cX6_look 31 = .ok (.iaload, 1) := by decide +kernel
theorem dX6_look_32 : decode cX6_look 32 = .ok (.goto 5, 3) := by decide +kernel
theorem dX6_look_35 : decode cX6_look 35 = .ok (.bipush (-103), 2) := by decide +kernel
theorem dX6_look_37 : decode cX6_look 37 = .ok (.ireturn, 1) := by decide +kernel
theorem dX6_fill_0 : decode cX6_fill 0 = .ok (.aload_n 0, 1) := by decide +kernel
theorem dX6_fill_1 : decode cX6_fill 1 = .ok (.iload_n 1, 1) := by decide +kernel
theorem dX6_fill_2 : decode cX6_fill 2 = .ok (.invokevirtual 123, 3) := by decide +kernel
theorem dX6_fill_5 : decode cX6_fill 5 = .ok (.ifCond .ne 6, 3) := by decide +kernel
theorem dX6_fill_8 : decode cX6_fill 8 = .ok (.bipush (-101), 2) := by decide +kernel
theorem dX6_fill_10 : decode cX6_fill 10 = .ok (.ireturn, 1) := by decide +kernel
theorem dX6_fill_11 : decode cX6_fill 11 = .ok (.aload_n 0, 1) := by decide +kernel
theorem dX6_fill_12 : decode cX6_fill 12 = .ok (.getfield 22, 3) := by decide +kernel
theorem dX6_fill_15 : decode cX6_fill 15 = .ok (.iconst 4, 1) := by decide +kernel
theorem dX6_fill_16 : decode cX6_fill 16 = .ok (.iload_n 1, 1) := by decide +kernel
theorem dX6_fill_17 : decode cX6_fill 17 = .ok (.imul, 1) := by decide +kernel
theorem dX6_fill_18 : decode cX6_fill 18 = .ok (.iconst 1, 1) := by decide +kernel
theorem dX6_fill_19 : decode cX6_fill 19 = .ok (.iadd, 1) := by decide +kernel
theorem dX6_fill_20 : decode cX6_fill 20 = .ok (.iaload, 1) := by decide +kernel
theorem dX6_fill_21 : decode cX6_fill 21 = .ok (.istore_n 2, 1) := by decide +kernel
theorem dX6_fill_22 : decode cX6_fill 22 = .ok (.aload_n 0, 1) := by decide +kernel
theorem dX6_fill_23 : decode cX6_fill 23 = .ok (.getfield 22, 3) := by decide +kernel
theorem dX6_fill_26 : decode cX6_fill 26 = .ok (.iconst 4, 1) := by decide +kernel
theorem dX6_fill_27 : decode cX6_fill 27 = .ok (.iload_n 1, 1) := by decide +kernel
theorem dX6_fill_28 : decode cX6_fill 28 = .ok (.imul, 1) := by decide +kernel
theorem dX6_fill_29 : decode cX6_fill 29 = .ok (.iconst 1, 1) := by decide +kernel
theorem dX6_fill_30 : decode cX6_fill 30 = .ok (.iadd, 1) := by decide +kernel
theorem dX6_fill_31 : decode cX6_fill 31 = .ok (.aload_n 0, 1) := by decide +kernel
theorem dX6_fill_32 : decode cX6_fill 32 = .ok (.getfield 87, 3) := by decide +kernel
theorem dX6_fill_35 : decode cX6_fill 35 = .ok (.iastore, 1) := by decide +kernel
theorem dX6_fill_36 : decode cX6_fill 36 = .ok (.iload_n 2, 1) := by decide +kernel
theorem dX6_fill_37 : decode cX6_fill 37 = .ok (.ireturn, 1) := by decide +kernel
theorem dX6_layFar_0 : decode cX6_layFar 0 = .ok (.iconst 0, 1) := by decide +kernel
theorem dX6_layFar_1 : decode cX6_layFar 1 = .ok (.istore_n 3, 1) := by decide +kernel
theorem dX6_layFar_2 : decode cX6_layFar 2 = .ok (.iload_n 3, 1) := by decide +kernel
theorem dX6_layFar_3 : decode cX6_layFar 3 = .ok (.bipush 6, 2) := by decide +kernel
theorem dX6_layFar_5 : decode cX6_layFar 5 = .ok (.if_icmp .ge 27, 3) := by decide +kernel
theorem dX6_layFar_8 : decode cX6_layFar 8 = .ok (.aload_n 0, 1) := by decide +kernel
theorem dX6_layFar_9 : decode cX6_layFar 9 = .ok (.getfield 25, 3) := by decide +kernel
theorem dX6_layFar_12 : decode cX6_layFar 12 = .ok (.iload_n 3, 1) := by decide +kernel
theorem dX6_layFar_13 : decode cX6_layFar 13 = .ok (.iload_n 3, 1) := by decide +kernel
theorem dX6_layFar_14 : decode cX6_layFar 14 = .ok (.iload_n 1, 1) := by decide +kernel
theorem dX6_layFar_15 : decode cX6_layFar 15 = .ok (.if_icmp .ne 7, 3) := by decide +kernel
theorem dX6_layFar_18 : decode cX6_layFar 18 = .ok (.iconst 0, 1) := by decide +kernel
theorem dX6_layFar_19 : decode cX6_layFar 19 = .ok (.goto 6, 3) := by decide +kernel
theorem dX6_layFar_22 : decode cX6_layFar 22 = .ok (.sipush 9999, 3) := by decide +kernel
theorem dX6_layFar_25 : decode cX6_layFar 25 = .ok (.iastore, 1) := by decide +kernel
theorem dX6_layFar_26 : decode cX6_layFar 26 = .ok (.iinc 3 1, 3) := by decide +kernel
theorem dX6_layFar_29 : decode cX6_layFar 29 = .ok (.goto (-27), 3) := by decide +kernel
theorem dX6_layFar_32 : decode cX6_layFar 32 = .ok (.iconst 0, 1) := by decide +kernel
theorem dX6_layFar_33 : decode cX6_layFar 33 = .ok (.istore_n 3, 1) := by decide +kernel
theorem dX6_layFar_34 : decode cX6_layFar 34 = .ok (.iload_n 3, 1) := by decide +kernel
theorem dX6_layFar_35 : decode cX6_layFar 35 = .ok (.bipush 6, 2) := by decide +kernel
theorem dX6_layFar_37 : decode cX6_layFar 37 = .ok (.if_icmp .ge 110, 3) := by decide +kernel
theorem dX6_layFar_40 : decode cX6_layFar 40 = .ok (.iconst 0, 1) := by decide +kernel
theorem dX6_layFar_41 : decode cX6_layFar 41 = .ok (.istore 4, 2) := by decide +kernel
theorem dX6_layFar_43 : decode cX6_layFar 43 = .ok (.iload 4, 2) := by decide +kernel
theorem dX6_layFar_45 : decode cX6_layFar 45 = .ok (.iconst 2, 1) := by decide +kernel
theorem dX6_layFar_46 : decode cX6_layFar 46 = .ok (.aload_n 0, 1) := by decide +kernel
theorem dX6_layFar_47 : decode cX6_layFar 47 = .ok (.getfield 84, 3) := by decide +kernel
theorem dX6_layFar_50 : decode cX6_layFar 50 = .ok (.imul, 1) := by decide +kernel
theorem dX6_layFar_51 : decode cX6_layFar 51 = .ok (.if_icmp .ge 90, 3) := by decide +kernel
theorem dX6_layFar_54 : decode cX6_layFar 54 = .ok (.aload_n 0, 1) := by decide +kernel
theorem dX6_layFar_55 : decode cX6_layFar 55 = .ok (.getfield 19, 3) := by decide +kernel
theorem dX6_layFar_58 : decode cX6_layFar 58 = .ok (.iload 4, 2) := by decide +kernel
theorem dX6_layFar_60 : decode cX6_layFar 60 = .ok (.iaload, 1) := by decide +kernel
theorem dX6_layFar_61 : decode cX6_layFar 61 = .ok (.istore 5, 2) := by decide +kernel
theorem dX6_layFar_63 : decode cX6_layFar 63 = .ok (.aload_n 0, 1) := by decide +kernel
theorem dX6_layFar_64 : decode cX6_layFar 64 = .ok (.getfield 25, 3) := by decide +kernel
theorem dX6_layFar_67 : decode cX6_layFar 67 = .ok (.iload 4, 2) := by decide +kernel
theorem dX6_layFar_69 : decode cX6_layFar 69 = .ok (.iconst 2, 1) := by decide +kernel
theorem dX6_layFar_70 : decode cX6_layFar 70 = .ok (.idiv, 1) := by decide +kernel
theorem dX6_layFar_71 : decode cX6_layFar 71 = .ok (.iaload, 1) := by decide +kernel
theorem dX6_layFar_72 : decode cX6_layFar 72 = .ok (.iload_n 2, 1) := by decide +kernel
theorem dX6_layFar_73 : decode cX6_layFar 73 = .ok (.ifCond .eq 12, 3) := by decide +kernel
theorem dX6_layFar_76 : decode cX6_layFar 76 = .ok (.aload_n 0, 1) := by decide +kernel
theorem dX6_layFar_77 : decode cX6_layFar 77 = .ok (.iload 5, 2) := by decide +kernel
theorem dX6_layFar_79 : decode cX6_layFar 79 = .ok (.invokevirtual 102, 3) := by decide +kernel
theorem dX6_layFar_82 : decode cX6_layFar 82 = .ok (.goto 4, 3) := by decide +kernel
theorem dX6_layFar_85 : decode cX6_layFar 85 = .ok (.iconst 1, 1) := by decide +kernel
theorem dX6_layFar_86 : decode cX6_layFar 86 = .ok (.iadd, 1) := by decide +kernel
theorem dX6_layFar_87 : decode cX6_layFar 87 = .ok (.istore 6, 2) := by decide +kernel
theorem dX6_layFar_89 : decode cX6_layFar 89 = .ok (.aload_n 0, 1) := by decide +kernel
theorem dX6_layFar_90 : decode cX6_layFar 90 = .ok (.getfield 25, 3) := by decide +kernel
theorem dX6_layFar_93 : decode cX6_layFar 93 = .ok (.iload 5, 2) := by decide +kernel
theorem dX6_layFar_95 : decode cX6_layFar 95 = .ok (.aload_n 0, 1) := by decide +kernel
theorem dX6_layFar_96 : decode cX6_layFar 96 = .ok (.getfield 25, 3) := by decide +kernel
theorem dX6_layFar_99 : decode cX6_layFar 99 = .ok (.iload 4, 2) := by decide +kernel
theorem dX6_layFar_101 : decode cX6_layFar 101 = .ok (.iconst 2, 1) := by decide +kernel
theorem dX6_layFar_102 : decode cX6_layFar 102 = .ok (.idiv, 1) := by decide +kernel
theorem dX6_layFar_103 : decode cX6_layFar 103 = .ok (.iaload, 1) := by decide +kernel
theorem dX6_layFar_104 : decode cX6_layFar 104 = .ok (.sipush 9999, 3) := by decide +kernel
theorem dX6_layFar_107 : decode cX6_layFar 107 = .ok (.if_icmp .ge 20, 3) := by decide +kernel
theorem dX6_layFar_110 : decode cX6_layFar 110 = .ok (.iload 6, 2) := by decide +kernel
theorem dX6_layFar_112 : decode cX6_layFar 112 = .ok (.aload_n 0, 1) := by decide +kernel
theorem dX6_layFar_113 : decode cX6_layFar 113 = .ok (.getfield 25, 3) := by decide +kernel
theorem dX6_layFar_116 : decode cX6_layFar 116 = .ok (.iload 5, 2) := by decide +kernel
theorem dX6_layFar_118 : decode cX6_layFar 118 = .ok (.iaload, 1) := by decide +kernel
theorem dX6_layFar_119 : decode cX6_layFar 119 = .ok (.if_icmp .ge 8, 3) := by decide +kernel
theorem dX6_layFar_122 : decode cX6_layFar 122 = .ok (.iload 6, 2) := by decide +kernel
theorem dX6_layFar_124 : decode cX6_layFar 124 = .ok (.goto 10, 3) := by decide +kernel
theorem dX6_layFar_127 : decode cX6_layFar 127 = .ok (.aload_n 0, 1) := by decide +kernel
theorem dX6_layFar_128 : decode cX6_layFar 128 = .ok (.getfield 25, 3) := by decide +kernel
theorem dX6_layFar_131 : decode cX6_layFar 131 = .ok (.iload 5, 2) := by decide +kernel
theorem dX6_layFar_133 : decode cX6_layFar 133 = .ok (.iaload, 1) := by decide +kernel
theorem dX6_layFar_134 : decode cX6_layFar 134 = .ok (.iastore, 1) := by decide +kernel
theorem dX6_layFar_135 : decode cX6_layFar 135 = .ok (.iinc 4 1, 3) := by decide +kernel
theorem dX6_layFar_138 : decode cX6_layFar 138 = .ok (.goto (-95), 3) := by decide +kernel
theorem dX6_layFar_141 : decode cX6_layFar 141 = .ok (.iinc 3 1, 3) := by decide +kernel
theorem dX6_layFar_144 : decode cX6_layFar 144 = .ok (.goto (-110), 3) := by decide +kernel
theorem dX6_layFar_147 : decode cX6_layFar 147 = .ok (.return_, 1) := by decide +kernel
theorem dX6_stepsTo_0 : decode cX6_stepsTo 0 = .ok (.aload_n 0, 1) := by decide +kernel
theorem dX6_stepsTo_1 : decode cX6_stepsTo 1 = .ok (.iload_n 1, 1) := by decide +kernel
theorem dX6_stepsTo_2 : decode cX6_stepsTo 2 = .ok (.iconst 0, 1) := by decide +kernel
theorem dX6_stepsTo_3 : decode cX6_stepsTo 3 = .ok (.invokevirtual 129, 3) := by decide +kernel
theorem dX6_stepsTo_6 : decode cX6_stepsTo 6 = .ok (.aload_n 0, 1) := by decide +kernel
theorem dX6_stepsTo_7 : decode cX6_stepsTo 7 = .ok (.getfield 25, 3) := by decide +kernel
theorem dX6_stepsTo_10 : decode cX6_stepsTo 10 = .ok (.iload_n 2, 1) := by decide +kernel
theorem dX6_stepsTo_11 : decode cX6_stepsTo 11 = .ok (.iaload, 1) := by decide +kernel
theorem dX6_stepsTo_12 : decode cX6_stepsTo 12 = .ok (.ireturn, 1) := by decide +kernel
theorem dX6_wayOf_0 : decode cX6_wayOf 0 = .ok (.aload_n 0, 1) := by decide +kernel
theorem dX6_wayOf_1 : decode cX6_wayOf 1 = .ok (.iload_n 1, 1) := by decide +kernel
theorem dX6_wayOf_2 : decode cX6_wayOf 2 = .ok (.iload_n 2, 1) := by decide +kernel
theorem dX6_wayOf_3 : decode cX6_wayOf 3 = .ok (.invokevirtual 133, 3) := by decide +kernel
theorem dX6_wayOf_6 : decode cX6_wayOf 6 = .ok (.istore 4, 2) := by decide +kernel
theorem dX6_wayOf_8 : decode cX6_wayOf 8 = .ok (.iload 4, 2) := by decide +kernel
theorem dX6_wayOf_10 : decode cX6_wayOf 10 = .ok (.sipush 9999, 3) := by decide +kernel
theorem dX6_wayOf_13 : decode cX6_wayOf 13 = .ok (.if_icmp .ne 5, 3) := by decide +kernel
theorem dX6_wayOf_16 : decode cX6_wayOf 16 = .ok (.iconst (-1), 1) := by decide +kernel
theorem dX6_wayOf_17 : decode cX6_wayOf 17 = .ok (.ireturn, 1) := by decide +kernel
theorem dX6_wayOf_18 : decode cX6_wayOf 18 = .ok (.iload_n 3, 1) := by decide +kernel
theorem dX6_wayOf_19 : decode cX6_wayOf 19 = .ok (.ifCond .ne 6, 3) := by decide +kernel
theorem dX6_wayOf_22 : decode cX6_wayOf 22 = .ok (.iload 4, 2) := by decide +kernel
theorem dX6_wayOf_24 : decode cX6_wayOf 24 = .ok (.ireturn, 1) := by decide +kernel
theorem dX6_wayOf_25 : decode cX6_wayOf 25 = .ok (.iload_n 3, 1) := by decide +kernel
theorem dX6_wayOf_26 : decode cX6_wayOf 26 = .ok (.iconst 1, 1) := by decide +kernel
theorem dX6_wayOf_27 : decode cX6_wayOf 27 = .ok (.if_icmp .ne 38, 3) := by decide +kernel
theorem dX6_wayOf_30 : decode cX6_wayOf 30 = .ok (.iload 4, 2) := by decide +kernel
theorem dX6_wayOf_32 : decode cX6_wayOf 32 = .ok (.ifCond .ne 7, 3) := by decide +kernel
theorem dX6_wayOf_35 : decode cX6_wayOf 35 = .ok (.iconst (-1), 1) := by decide +kernel
theorem dX6_wayOf_36 : decode cX6_wayOf 36 = .ok (.goto 28, 3) := by decide +kernel
theorem dX6_wayOf_39 : decode cX6_wayOf 39 = .ok (.aload_n 0, 1) := by decide +kernel
theorem dX6_wayOf_40 : decode cX6_wayOf 40 = .ok (.aload_n 0, 1) := by decide +kernel
theorem dX6_wayOf_41 : decode cX6_wayOf 41 = .ok (.getfield 19, 3) := by decide +kernel
theorem dX6_wayOf_44 : decode cX6_wayOf 44 = .ok (.iconst 2, 1) := by decide +kernel
theorem dX6_wayOf_45 : decode cX6_wayOf 45 = .ok (.iload_n 1, 1) := by decide +kernel
theorem dX6_wayOf_46 : decode cX6_wayOf 46 = .ok (.imul, 1) := by decide +kernel
theorem dX6_wayOf_47 : decode cX6_wayOf 47 = .ok (.iaload, 1) := by decide +kernel
theorem dX6_wayOf_48 : decode cX6_wayOf 48 = .ok (.iload_n 2, 1) := by decide +kernel
theorem dX6_wayOf_49 : decode cX6_wayOf 49 = .ok (.invokevirtual 133, 3) := by decide +kernel
theorem dX6_wayOf_52 : decode cX6_wayOf 52 = .ok (.iload 4, 2) := by decide +kernel
theorem dX6_wayOf_54 : decode cX6_wayOf 54 = .ok (.iconst 1, 1) := by decide +kernel
theorem dX6_wayOf_55 : decode cX6_wayOf 55 = .ok (.isub, 1) := by decide +kernel
theorem dX6_wayOf_56 : decode cX6_wayOf 56 = .ok (.if_icmp .ne 7, 3) := by decide +kernel
theorem dX6_wayOf_59 : decode cX6_wayOf 59 = .ok (.iconst 0, 1) := by decide +kernel
theorem dX6_wayOf_60 : decode cX6_wayOf 60 = .ok (.goto 4, 3) := by decide +kernel
theorem dX6_wayOf_63 : decode cX6_wayOf 63 = .ok (.iconst 1, 1) := by decide +kernel
theorem dX6_wayOf_64 : decode cX6_wayOf 64 = .ok (.ireturn, 1) := by decide +kernel
theorem dX6_wayOf_65 : decode cX6_wayOf 65 = .ok (.aload_n 0, 1) := by decide +kernel
theorem dX6_wayOf_66 : decode cX6_wayOf 66 = .ok (.iload_n 1, 1) := by decide +kernel
theorem dX6_wayOf_67 : decode cX6_wayOf 67 = .ok (.iconst 1, 1) := by decide +kernel
theorem dX6_wayOf_68 : decode cX6_wayOf 68 = .ok (.invokevirtual 129, 3) := by decide +kernel
theorem dX6_wayOf_71 : decode cX6_wayOf 71 = .ok (.aload_n 0, 1) := by decide +kernel
theorem dX6_wayOf_72 : decode cX6_wayOf 72 = .ok (.getfield 25, 3) := by decide +kernel
theorem dX6_wayOf_75 : decode cX6_wayOf 75 = .ok (.iload_n 2, 1) := by decide +kernel
theorem dX6_wayOf_76 : decode cX6_wayOf 76 = .ok (.iaload, 1) := by decide +kernel
theorem dX6_wayOf_77 : decode cX6_wayOf 77 = .ok (.ireturn, 1) := by decide +kernel
theorem dX6_way_0 : decode cX6_way 0 = .ok (.aload_n 0, 1) := by decide +kernel
theorem dX6_way_1 : decode cX6_way 1 = .ok (.iload_n 1, 1) := by decide +kernel
theorem dX6_way_2 : decode cX6_way 2 = .ok (.invokevirtual 108, 3) := by decide +kernel
theorem dX6_way_5 : decode cX6_way 5 = .ok (.ifCond .eq 11, 3) := by decide +kernel
theorem dX6_way_8 : decode cX6_way 8 = .ok (.aload_n 0, 1) := by decide +kernel
theorem dX6_way_9 : decode cX6_way 9 = .ok (.iload_n 2, 1) := by decide +kernel
theorem dX6_way_10 : decode cX6_way 10 = .ok (.invokevirtual 108, 3) := by decide +kernel
theorem dX6_way_13 : decode cX6_way 13 = .ok (.ifCond .ne 6, 3) := by decide +kernel
theorem dX6_way_16 : decode cX6_way 16 = .ok (.bipush (-101), 2) := by decide +kernel
theorem dX6_way_18 : decode cX6_way 18 = .ok (.ireturn, 1) := by decide +kernel
theorem dX6_way_19 : decode cX6_way 19 = .ok (.iload_n 3, 1) := by decide +kernel
theorem dX6_way_20 : decode cX6_way 20 = .ok (.i2l, 1) := by decide +kernel
theorem dX6_way_21 : decode cX6_way 21 = .ok (.lconst 0, 1) := by decide +kernel
theorem dX6_way_22 : decode cX6_way 22 = .ok (.ldc2_w 136, 3) := by decide +kernel
theorem dX6_way_25 : decode cX6_way 25 = .ok (.invokestatic 49, 3) := by decide +kernel
theorem dX6_way_28 : decode cX6_way 28 = .ok (.ifCond .eq 13, 3) := by decide +kernel
theorem dX6_way_31 : decode cX6_way 31 = .ok (.aload_n 0, 1) := by decide +kernel
theorem dX6_way_32 : decode cX6_way 32 = .ok (.iload_n 1, 1) := by decide +kernel
theorem dX6_way_33 : decode cX6_way 33 = .ok (.iload_n 2, 1) := by decide +kernel
theorem dX6_way_34 : decode cX6_way 34 = .ok (.iload_n 3, 1) := by decide +kernel
theorem dX6_way_35 : decode cX6_way 35 = .ok (.invokevirtual 138, 3) := by decide +kernel
theorem dX6_way_38 : decode cX6_way 38 = .ok (.goto 5, 3) := by decide +kernel
theorem dX6_way_41 : decode cX6_way 41 = .ok (.bipush (-102), 2) := by decide +kernel
theorem dX6_way_43 : decode cX6_way 43 = .ok (.ireturn, 1) := by decide +kernel
theorem dX6_roundFrom_0 : decode cX6_roundFrom 0 = .ok (.iconst 1, 1) := by decide +kernel
theorem dX6_roundFrom_1 : decode cX6_roundFrom 1 = .ok (.aload_n 0, 1) := by decide +kernel
theorem dX6_roundFrom_2 : decode cX6_roundFrom 2 = .ok (.getfield 84, 3) := by decide +kernel
theorem dX6_roundFrom_5 : decode cX6_roundFrom 5 = .ok (.ishl, 1) := by decide +kernel
theorem dX6_roundFrom_6 : decode cX6_roundFrom 6 = .ok (.iconst 1, 1) := by decide +kernel
theorem dX6_roundFrom_7 : decode cX6_roundFrom 7 = .ok (.isub, 1) := by decide +kernel
theorem dX6_roundFrom_8 : decode cX6_roundFrom 8 = .ok (.istore_n 3, 1) := by decide +kernel
theorem dX6_roundFrom_9 : decode cX6_roundFrom 9 = .ok (.iconst 0, 1) := by decide +kernel
theorem dX6_roundFrom_10 : decode cX6_roundFrom 10 = .ok (.istore 4, 2) := by decide +kernel
theorem dX6_roundFrom_12 : decode cX6_roundFrom 12 = .ok (.iload 4, 2) := by decide +kernel
theorem dX6_roundFrom_14 : decode cX6_roundFrom 14 = .ok (.sipush 384, 3) := by decide +kernel
theorem dX6_roundFrom_17 : decode cX6_roundFrom 17 = .ok (.if_icmp .ge 19, 3) := by decide +kernel
theorem dX6_roundFrom_20 : decode cX6_roundFrom 20 = .ok (.aload_n 0, 1) := by decide +kernel
theorem dX6_roundFrom_21 : decode cX6_roundFrom 21 = .ok (.getfield 28, 3) := by decide +kernel
theorem dX6_roundFrom_24 : decode cX6_roundFrom 24 = .ok (.iload 4, 2) := by decide +kernel
theorem dX6_roundFrom_26 : decode cX6_roundFrom 26 = .ok (.sipush 9999, 3) := by decide +kernel
theorem dX6_roundFrom_29 : decode cX6_roundFrom 29 = .ok (.iastore, 1) := by decide +kernel
theorem dX6_roundFrom_30 : decode cX6_roundFrom 30 = .ok (.iinc 4 1, 3) := by decide +kernel
theorem dX6_roundFrom_33 : decode cX6_roundFrom 33 = .ok (.goto (-21), 3) := by decide +kernel
theorem dX6_roundFrom_36 : decode cX6_roundFrom 36 = .ok (.iload_n 2, 1) := by decide +kernel
theorem dX6_roundFrom_37 : decode cX6_roundFrom 37 = .ok (.iconst 1, 1) := by decide +kernel
theorem dX6_roundFrom_38 : decode cX6_roundFrom 38 = .ok (.iload_n 1, 1) := by decide +kernel
theorem dX6_roundFrom_39 : decode cX6_roundFrom 39 = .ok (.ishl, 1) := by decide +kernel
theorem dX6_roundFrom_40 : decode cX6_roundFrom 40 = .ok (.ior, 1) := by decide +kernel
theorem dX6_roundFrom_41 : decode cX6_roundFrom 41 = .ok (.istore 4, 2) := by decide +kernel
theorem dX6_roundFrom_43 : decode cX6_roundFrom 43 = .ok (.aload_n 0, 1) := by decide +kernel
theorem dX6_roundFrom_44 : decode cX6_roundFrom 44 = .ok (.getfield 28, 3) := by decide +kernel
theorem dX6_roundFrom_47 : decode cX6_roundFrom 47 = .ok (.bipush 64, 2) := by decide +kernel
theorem dX6_roundFrom_49 : decode cX6_roundFrom 49 = .ok (.iload_n 1, 1) := by decide +kernel
theorem dX6_roundFrom_50 : decode cX6_roundFrom 50 = .ok (.imul, 1) := by decide +kernel
theorem dX6_roundFrom_51 : decode cX6_roundFrom 51 = .ok (.iload 4, 2) := by decide +kernel
theorem dX6_roundFrom_53 : decode cX6_roundFrom 53 = .ok (.iadd, 1) := by decide +kernel
theorem dX6_roundFrom_54 : decode cX6_roundFrom 54 = .ok (.iconst 0, 1) := by decide +kernel
theorem dX6_roundFrom_55 : decode cX6_roundFrom 55 = .ok (.iastore, 1) := by decide +kernel
theorem dX6_roundFrom_56 : decode cX6_roundFrom 56 = .ok (.iconst 0, 1) := by decide +kernel
theorem dX6_roundFrom_57 : decode cX6_roundFrom 57 = .ok (.istore 5, 2) := by decide +kernel
theorem dX6_roundFrom_59 : decode cX6_roundFrom 59 = .ok (.iload 5, 2) := by decide +kernel
theorem dX6_roundFrom_61 : decode cX6_roundFrom 61 = .ok (.bipush 64, 2) := by decide +kernel
theorem dX6_roundFrom_63 : decode cX6_roundFrom 63 = .ok (.if_icmp .ge 150, 3) := by decide +kernel
theorem dX6_roundFrom_66 : decode cX6_roundFrom 66 = .ok (.iconst 0, 1) := by decide +kernel
theorem dX6_roundFrom_67 : decode cX6_roundFrom 67 = .ok (.istore 6, 2) := by decide +kernel
theorem dX6_roundFrom_69 : decode cX6_roundFrom 69 = .ok (.iload 6, 2) := by decide +kernel
theorem dX6_roundFrom_71 : decode cX6_roundFrom 71 = .ok (.bipush 64, 2) := by decide +kernel
theorem dX6_roundFrom_73 : decode cX6_roundFrom 73 = .ok (.aload_n 0, 1) := by decide +kernel
theorem dX6_roundFrom_74 : decode cX6_roundFrom 74 = .ok (.getfield 84, 3) := by decide +kernel
theorem dX6_roundFrom_77 : decode cX6_roundFrom 77 = .ok (.imul, 1) := by decide +kernel
theorem dX6_roundFrom_78 : decode cX6_roundFrom 78 = .ok (.if_icmp .ge 129, 3) := by decide +kernel
theorem dX6_roundFrom_81 : decode cX6_roundFrom 81 = .ok (.aload_n 0, 1) := by decide +kernel
theorem dX6_roundFrom_82 : decode cX6_roundFrom 82 = .ok (.getfield 28, 3) := by decide +kernel
theorem dX6_roundFrom_85 : decode cX6_roundFrom 85 = .ok (.iload 6, 2) := by decide +kernel
theorem dX6_roundFrom_87 : decode cX6_roundFrom 87 = .ok (.iaload, 1) := by decide +kernel
theorem dX6_roundFrom_88 : decode cX6_roundFrom 88 = .ok (.iload 5, 2) := by decide +kernel
theorem dX6_roundFrom_90 : decode cX6_roundFrom 90 = .ok (.if_icmp .ne 15, 3) := by decide +kernel
theorem dX6_roundFrom_93 : decode cX6_roundFrom 93 = .ok (.iload 6, 2) := by decide +kernel
theorem dX6_roundFrom_95 : decode cX6_roundFrom 95 = .ok (.bipush 64, 2) := by decide +kernel
theorem dX6_roundFrom_97 : decode cX6_roundFrom 97 = .ok (.irem, 1) := by decide +kernel
theorem dX6_roundFrom_98 : decode cX6_roundFrom 98 = .ok (.iload_n 3, 1) := by decide +kernel
theorem dX6_roundFrom_99 : decode cX6_roundFrom 99 = .ok (.if_icmp .ne 6, 3) := by decide +kernel
theorem dX6_roundFrom_102 : decode cX6_roundFrom 102 = .ok (.iload 5, 2) := by decide +kernel
theorem dX6_roundFrom_104 : decode cX6_roundFrom 104 = .ok (.ireturn, 1) := by decide +kernel
theorem dX6_roundFrom_105 : decode cX6_roundFrom 105 = .ok (.iconst 0, 1) := by decide +kernel
theorem dX6_roundFrom_106 : decode cX6_roundFrom 106 = .ok (.istore 7, 2) := by decide +kernel
theorem dX6_roundFrom_108 : decode cX6_roundFrom 108 = .ok (.iload 7, 2) := by decide +kernel
theorem dX6_roundFrom_110 : decode cX6_roundFrom 110 = .ok (.iconst 2, 1) := by decide +kernel
theorem dX6_roundFrom_111 : decode cX6_roundFrom 111 = .ok (.if_icmp .ge 90, 3) := by decide +kernel
theorem dX6_roundFrom_114 : decode cX6_roundFrom 114 = .ok (.aload_n 0, 1) := by decide +kernel
theorem dX6_roundFrom_115 : decode cX6_roundFrom 115 = .ok (.getfield 28, 3) := by decide +kernel
theorem dX6_roundFrom_118 : decode cX6_roundFrom 118 = .ok (.iload 6, 2) := by decide +kernel
theorem dX6_roundFrom_120 : decode cX6_roundFrom 120 = .ok (.iaload, 1) := by decide +kernel
theorem dX6_roundFrom_121 : decode cX6_roundFrom 121 = .ok (.iload 5, 2) := by decide +kernel
theorem dX6_roundFrom_123 : decode cX6_roundFrom 123 = .ok (.if_icmp .ne 78, 3) := by decide +kernel
theorem dX6_roundFrom_126 : decode cX6_roundFrom 126 = .ok (.aload_n 0, 1) := by decide +kernel
theorem dX6_roundFrom_127 : decode cX6_roundFrom 127 = .ok (.getfield 19, 3) := by decide +kernel
theorem dX6_roundFrom_130 : decode cX6_roundFrom 130 = .ok (.iconst 2, 1) := by decide +kernel
theorem dX6_roundFrom_131 : decode cX6_roundFrom 131 = .ok (.iload 6, 2) := by decide +kernel
theorem dX6_roundFrom_133 : decode cX6_roundFrom 133 = .ok (.bipush 64, 2) := by decide +kernel
theorem dX6_roundFrom_135 : decode cX6_roundFrom 135 = .ok (.idiv, 1) := by decide +kernel
theorem dX6_roundFrom_136 : decode cX6_roundFrom 136 = .ok (.imul, 1) := by decide +kernel
theorem dX6_roundFrom_137 : decode cX6_roundFrom 137 = .ok (.iload 7, 2) := by decide +kernel
theorem dX6_roundFrom_139 : decode cX6_roundFrom 139 = .ok (.iadd, 1) := by decide +kernel
theorem dX6_roundFrom_140 : decode cX6_roundFrom 140 = .ok (.iaload, 1) := by decide +kernel
theorem dX6_roundFrom_141 : decode cX6_roundFrom 141 = .ok (.istore 8, 2) := by decide +kernel
theorem dX6_roundFrom_143 : decode cX6_roundFrom 143 = .ok (.bipush 64, 2) := by decide +kernel
theorem dX6_roundFrom_145 : decode cX6_roundFrom 145 = .ok (.iload 8, 2) := by decide +kernel
theorem dX6_roundFrom_147 : decode cX6_roundFrom 147 = .ok (.imul, 1) := by decide +kernel
theorem dX6_roundFrom_148 : decode cX6_roundFrom 148 = .ok (.iload 6, 2) := by decide +kernel
theorem dX6_roundFrom_150 : decode cX6_roundFrom 150 = .ok (.bipush 64, 2) := by decide +kernel
theorem dX6_roundFrom_152 : decode cX6_roundFrom 152 = .ok (.irem, 1) := by decide +kernel
theorem dX6_roundFrom_153 : decode cX6_roundFrom 153 = .ok (.iconst 1, 1) := by decide +kernel
theorem dX6_roundFrom_154 : decode cX6_roundFrom 154 = .ok (.iload 8, 2) := by decide +kernel
theorem dX6_roundFrom_156 : decode cX6_roundFrom 156 = .ok (.ishl, 1) := by decide +kernel
theorem dX6_roundFrom_157 : decode cX6_roundFrom 157 = .ok (.ior, 1) := by decide +kernel
theorem dX6_roundFrom_158 : decode cX6_roundFrom 158 = .ok (.iadd, 1) := by decide +kernel
theorem dX6_roundFrom_159 : decode cX6_roundFrom 159 = .ok (.istore 9, 2) := by decide +kernel
theorem dX6_roundFrom_161 : decode cX6_roundFrom 161 = .ok (.aload_n 0, 1) := by decide +kernel
theorem dX6_roundFrom_162 : decode cX6_roundFrom 162 = .ok (.getfield 28, 3) := by decide +kernel
theorem dX6_roundFrom_165 : decode cX6_roundFrom 165 = .ok (.iload 9, 2) := by decide +kernel
theorem dX6_roundFrom_167 : decode cX6_roundFrom 167 = .ok (.aload_n 0, 1) := by decide +kernel
theorem dX6_roundFrom_168 : decode cX6_roundFrom 168 = .ok (.getfield 28, 3) := by decide +kernel
theorem dX6_roundFrom_171 : decode cX6_roundFrom 171 = .ok (.iload 9, 2) := by decide +kernel
theorem dX6_roundFrom_173 : decode cX6_roundFrom 173 = .ok (.iaload, 1) := by decide +kernel
theorem dX6_roundFrom_174 : decode cX6_roundFrom 174 = .ok (.sipush 9999, 3) := by decide +kernel
theorem dX6_roundFrom_177 : decode cX6_roundFrom 177 = .ok (.if_icmp .ne 10, 3) := by decide +kernel
theorem dX6_roundFrom_180 : decode cX6_roundFrom 180 = .ok (.iload 5, 2) := by decide +kernel
theorem dX6_roundFrom_182 : decode cX6_roundFrom 182 = .ok (.iconst 1, 1) := by decide +kernel
theorem dX6_roundFrom_183 : decode cX6_roundFrom 183 = .ok (.iadd, 1) := by decide +kernel
theorem dX6_roundFrom_184 : decode cX6_roundFrom 184 = .ok (.goto 10, 3) := by decide +kernel
theorem dX6_roundFrom_187 : decode cX6_roundFrom 187 = .ok (.aload_n 0, 1) := by decide +kernel
theorem dX6_roundFrom_188 : decode cX6_roundFrom 188 = .ok (.getfield 28, 3) := by decide +kernel
theorem dX6_roundFrom_191 : decode cX6_roundFrom 191 = .ok (.iload 9, 2) := by decide +kernel
theorem dX6_roundFrom_193 : decode cX6_roundFrom 193 = .ok (.iaload, 1) := by decide +kernel
theorem dX6_roundFrom_194 : decode cX6_roundFrom 194 = .ok (.iastore, 1) := by decide +kernel
theorem dX6_roundFrom_195 : decode cX6_roundFrom 195 = .ok (.iinc 7 1, 3) := by decide +kernel
theorem dX6_roundFrom_198 : decode cX6_roundFrom 198 = .ok (.goto (-90), 3) := by decide +kernel
theorem dX6_roundFrom_201 : decode cX6_roundFrom 201 = .ok (.iinc 6 1, 3) := by decide +kernel
theorem dX6_roundFrom_204 : decode cX6_roundFrom 204 = .ok (.goto (-135), 3) := by decide +kernel
theorem dX6_roundFrom_207 : decode cX6_roundFrom 207 = .ok (.iinc 5 1, 3) := by decide +kernel
theorem dX6_roundFrom_210 : decode cX6_roundFrom 210 = .ok (.goto (-151), 3) := by decide +kernel
theorem dX6_roundFrom_213 : decode cX6_roundFrom 213 = .ok (.sipush 9999, 3) := by decide +kernel
theorem dX6_roundFrom_216 : decode cX6_roundFrom 216 = .ok (.ireturn, 1) := by decide +kernel
theorem dX6_roundOf_0 : decode cX6_roundOf 0 = .ok (.aload_n 0, 1) := by decide +kernel
theorem dX6_roundOf_1 : decode cX6_roundOf 1 = .ok (.iload_n 1, 1) := by decide +kernel
theorem dX6_roundOf_2 : decode cX6_roundOf 2 = .ok (.iconst 0, 1) := by decide +kernel
theorem dX6_roundOf_3 : decode cX6_roundOf 3 = .ok (.invokevirtual 142, 3) := by decide +kernel
theorem dX6_roundOf_6 : decode cX6_roundOf 6 = .ok (.istore_n 3, 1) := by decide +kernel
theorem dX6_roundOf_7 : decode cX6_roundOf 7 = .ok (.iload_n 3, 1) := by decide +kernel
theorem dX6_roundOf_8 : decode cX6_roundOf 8 = .ok (.sipush 9999, 3) := by decide +kernel
theorem dX6_roundOf_11 : decode cX6_roundOf 11 = .ok (.if_icmp .ne 5, 3) := by decide +kernel
theorem dX6_roundOf_14 : decode cX6_roundOf 14 = .ok (.iconst (-1), 1) := by decide +kernel
theorem dX6_roundOf_15 : decode cX6_roundOf 15 = .ok (.ireturn, 1) := by decide +kernel
theorem dX6_roundOf_16 : decode cX6_roundOf 16 = .ok (.iload_n 2, 1) := by decide +kernel
theorem dX6_roundOf_17 : decode cX6_roundOf 17 = .ok (.ifCond .ne 7, 3) := by decide +kernel
theorem dX6_roundOf_20 : decode cX6_roundOf 20 = .ok (.iload_n 3, 1) := by decide +kernel
theorem dX6_roundOf_21 : decode cX6_roundOf 21 = .ok (.goto 29, 3) := by decide +kernel
theorem dX6_roundOf_24 : decode cX6_roundOf 24 = .ok (.aload_n 0, 1) := by decide +kernel
theorem dX6_roundOf_25 : decode cX6_roundOf 25 = .ok (.aload_n 0, 1) := by decide +kernel
theorem dX6_roundOf_26 : decode cX6_roundOf 26 = .ok (.getfield 19, 3) := by decide +kernel
theorem dX6_roundOf_29 : decode cX6_roundOf 29 = .ok (.iconst 2, 1) := by decide +kernel
theorem dX6_roundOf_30 : decode cX6_roundOf 30 = .ok (.iload_n 1, 1) := by decide +kernel
theorem dX6_roundOf_31 : decode cX6_roundOf 31 = .ok (.imul, 1) := by decide +kernel
theorem dX6_roundOf_32 : decode cX6_roundOf 32 = .ok (.iaload, 1) := by decide +kernel
theorem dX6_roundOf_33 : decode cX6_roundOf 33 = .ok (.iconst 1, 1) := by decide +kernel
theorem dX6_roundOf_34 : decode cX6_roundOf 34 = .ok (.iload_n 1, 1) := by decide +kernel
theorem dX6_roundOf_35 : decode cX6_roundOf 35 = .ok (.ishl, 1) := by decide +kernel
theorem dX6_roundOf_36 : decode cX6_roundOf 36 = .ok (.invokevirtual 142, 3) := by decide +kernel
theorem dX6_roundOf_39 : decode cX6_roundOf 39 = .ok (.iload_n 3, 1) := by decide +kernel
theorem dX6_roundOf_40 : decode cX6_roundOf 40 = .ok (.iconst 1, 1) := by decide +kernel
theorem dX6_roundOf_41 : decode cX6_roundOf 41 = .ok (.isub, 1) := by decide +kernel
theorem dX6_roundOf_42 : decode cX6_roundOf 42 = .ok (.if_icmp .ne 7, 3) := by decide +kernel
theorem dX6_roundOf_45 : decode cX6_roundOf 45 = .ok (.iconst 0, 1) := by decide +kernel
theorem dX6_roundOf_46 : decode cX6_roundOf 46 = .ok (.goto 4, 3) := by decide +kernel
theorem dX6_roundOf_49 : decode cX6_roundOf 49 = .ok (.iconst 1, 1) := by decide +kernel
theorem dX6_roundOf_50 : decode cX6_roundOf 50 = .ok (.ireturn, 1) := by decide +kernel
theorem dX6_round_0 : decode cX6_round 0 = .ok (.aload_n 0, 1) := by decide +kernel
theorem dX6_round_1 : decode cX6_round 1 = .ok (.iload_n 1, 1) := by decide +kernel
theorem dX6_round_2 : decode cX6_round 2 = .ok (.invokevirtual 108, 3) := by decide +kernel
theorem dX6_round_5 : decode cX6_round 5 = .ok (.ifCond .ne 6, 3) := by decide +kernel
theorem dX6_round_8 : decode cX6_round 8 = .ok (.bipush (-101), 2) := by decide +kernel
theorem dX6_round_10 : decode cX6_round 10 = .ok (.ireturn, 1) := by decide +kernel
theorem dX6_round_11 : decode cX6_round 11 = .ok (.iload_n 2, 1) := by decide +kernel
theorem dX6_round_12 : decode cX6_round 12 = .ok (.i2l, 1) := by decide +kernel
theorem dX6_round_13 : decode cX6_round 13 = .ok (.lconst 0, 1) := by decide +kernel
theorem dX6_round_14 : decode cX6_round 14 = .ok (.lconst 1, 1) := by decide +kernel
theorem dX6_round_15 : decode cX6_round 15 = .ok (.invokestatic 49, 3) := by decide +kernel
theorem dX6_round_18 : decode cX6_round 18 = .ok (.ifCond .eq 12, 3) := by decide +kernel
theorem dX6_round_21 : decode cX6_round 21 = .ok (.aload_n 0, 1) := by decide +kernel
theorem dX6_round_22 : decode cX6_round 22 = .ok (.iload_n 1, 1) := by decide +kernel
theorem dX6_round_23 : decode cX6_round 23 = .ok (.iload_n 2, 1) := by decide +kernel
theorem dX6_round_24 : decode cX6_round 24 = .ok (.invokevirtual 145, 3) := by decide +kernel
theorem dX6_round_27 : decode cX6_round 27 = .ok (.goto 5, 3) := by decide +kernel
theorem dX6_round_30 : decode cX6_round 30 = .ok (.bipush (-102), 2) := by decide +kernel
theorem dX6_round_32 : decode cX6_round 32 = .ok (.ireturn, 1) := by decide +kernel
theorem dX6_beginPair_0 : decode cX6_beginPair 0 = .ok (.iconst 0, 1) := by decide +kernel
theorem dX6_beginPair_1 : decode cX6_beginPair 1 = .ok (.istore_n 3, 1) := by decide +kernel
theorem dX6_beginPair_2 : decode cX6_beginPair 2 = .ok (.iload_n 3, 1) := by decide +kernel
theorem dX6_beginPair_3 : decode cX6_beginPair 3 = .ok (.bipush 36, 2) := by decide +kernel
theorem dX6_beginPair_5 : decode cX6_beginPair 5 = .ok (.if_icmp .ge 18, 3) := by decide +kernel
theorem dX6_beginPair_8 : decode cX6_beginPair 8 = .ok (.aload_n 0, 1) := by decide +kernel
theorem dX6_beginPair_9 : decode cX6_beginPair 9 = .ok (.getfield 31, 3) := by decide +kernel
theorem dX6_beginPair_12 : decode cX6_beginPair 12 = .ok (.iload_n 3, 1) := by decide +kernel
theorem dX6_beginPair_13 : decode cX6_beginPair 13 = .ok (.sipush 9999, 3) := by decide +kernel
theorem dX6_beginPair_16 : decode cX6_beginPair 16 = .ok (.iastore, 1) := by decide +kernel
theorem dX6_beginPair_17 : decode cX6_beginPair 17 = .ok (.iinc 3 1, 3) := by decide +kernel
theorem dX6_beginPair_20 : decode cX6_beginPair 20 = .ok (.goto (-18), 3) := by decide +kernel
theorem dX6_beginPair_23 : decode cX6_beginPair 23 = .ok (.aload_n 0, 1) := by decide +kernel
theorem dX6_beginPair_24 : decode cX6_beginPair 24 = .ok (.getfield 31, 3) := by decide +kernel
theorem dX6_beginPair_27 : decode cX6_beginPair 27 = .ok (.bipush 6, 2) := by decide +kernel
theorem dX6_beginPair_29 : decode cX6_beginPair 29 = .ok (.iload_n 1, 1) := by decide +kernel
theorem dX6_beginPair_30 : decode cX6_beginPair 30 = .ok (.imul, 1) := by decide +kernel
theorem dX6_beginPair_31 : decode cX6_beginPair 31 = .ok (.iload_n 2, 1) := by decide +kernel
theorem dX6_beginPair_32 : decode cX6_beginPair 32 = .ok (.iadd, 1) := by decide +kernel
theorem dX6_beginPair_33 : decode cX6_beginPair 33 = .ok (.iconst 0, 1) := by decide +kernel
theorem dX6_beginPair_34 : decode cX6_beginPair 34 = .ok (.iastore, 1) := by decide +kernel
theorem dX6_beginPair_35 : decode cX6_beginPair 35 = .ok (.return_, 1) := by decide +kernel
theorem dX6_meetOf_0 : decode cX6_meetOf 0 = .ok (.aload_n 0, 1) := by decide +kernel
theorem dX6_meetOf_1 : decode cX6_meetOf 1 = .ok (.iload_n 1, 1) := by decide +kernel
theorem dX6_meetOf_2 : decode cX6_meetOf 2 = .ok (.iload_n 2, 1) := by decide +kernel
theorem dX6_meetOf_3 : decode cX6_meetOf 3 = .ok (.invokevirtual 148, 3) := by decide +kernel
theorem dX6_meetOf_6 : decode cX6_meetOf 6 = .ok (.iconst 0, 1) := by decide +kernel
theorem dX6_meetOf_7 : decode cX6_meetOf 7 = .ok (.istore_n 3, 1) := by decide +kernel
theorem dX6_meetOf_8 : decode cX6_meetOf 8 = .ok (.iload_n 3, 1) := by decide +kernel
theorem dX6_meetOf_9 : decode cX6_meetOf 9 = .ok (.bipush 36, 2) := by decide +kernel
theorem dX6_meetOf_11 : decode cX6_meetOf 11 = .ok (.if_icmp .ge 150, 3) := by decide +kernel
theorem dX6_meetOf_14 : decode cX6_meetOf 14 = .ok (.iconst 0, 1) := by decide +kernel
theorem dX6_meetOf_15 : decode cX6_meetOf 15 = .ok (.istore 4, 2) := by decide +kernel
theorem dX6_meetOf_17 : decode cX6_meetOf 17 = .ok (.iload 4, 2) := by decide +kernel
theorem dX6_meetOf_19 : decode cX6_meetOf 19 = .ok (.bipush 36, 2) := by decide +kernel
theorem dX6_meetOf_21 : decode cX6_meetOf 21 = .ok (.if_icmp .ge 134, 3) := by decide +kernel
theorem dX6_meetOf_24 : decode cX6_meetOf 24 = .ok (.aload_n 0, 1) := by decide +kernel
theorem dX6_meetOf_25 : decode cX6_meetOf 25 = .ok (.getfield 31, 3) := by decide +kernel
theorem dX6_meetOf_28 : decode cX6_meetOf 28 = .ok (.iload 4, 2) := by decide +kernel
theorem dX6_meetOf_30 : decode cX6_meetOf 30 = .ok (.iaload, 1) := by decide +kernel
theorem dX6_meetOf_31 : decode cX6_meetOf 31 = .ok (.iload_n 3, 1) := by decide +kernel
theorem dX6_meetOf_32 : decode cX6_meetOf 32 = .ok (.if_icmp .ne 18, 3) := by decide +kernel
theorem dX6_meetOf_35 : decode cX6_meetOf 35 = .ok (.iload 4, 2) := by decide +kernel
theorem dX6_meetOf_37 : decode cX6_meetOf 37 = .ok (.bipush 6, 2) := by decide +kernel
theorem dX6_meetOf_39 : decode cX6_meetOf 39 = .ok (.idiv, 1) := by decide +kernel
theorem dX6_meetOf_40 : decode cX6_meetOf 40 = .ok (.iload 4, 2) := by decide +kernel
theorem dX6_meetOf_42 : decode cX6_meetOf 42 = .ok (.bipush 6, 2) := by decide +kernel
theorem dX6_meetOf_44 : decode cX6_meetOf 44 = .ok (.irem, 1) := by decide +kernel
theorem dX6_meetOf_45 : decode cX6_meetOf 45 = .ok (.if_icmp .ne 5, 3) := by decide +kernel
theorem dX6_meetOf_48 : decode cX6_meetOf 48 = .ok (.iload_n 3, 1) := by decide +kernel
theorem dX6_meetOf_49 : decode cX6_meetOf 49 = .ok (.ireturn, 1) := by decide +kernel
theorem dX6_meetOf_50 : decode cX6_meetOf 50 = .ok (.iconst 0, 1) := by decide +kernel
theorem dX6_meetOf_51 : decode cX6_meetOf 51 = .ok (.istore 5, 2) := by decide +kernel
theorem dX6_meetOf_53 : decode cX6_meetOf 53 = .ok (.iload 5, 2) := by decide +kernel
theorem dX6_meetOf_55 : decode cX6_meetOf 55 = .ok (.iconst 4, 1) := by decide +kernel
theorem dX6_meetOf_56 : decode cX6_meetOf 56 = .ok (.if_icmp .ge 93, 3) := by decide +kernel
theorem dX6_meetOf_59 : decode cX6_meetOf 59 = .ok (.aload_n 0, 1) := by decide +kernel
theorem dX6_meetOf_60 : decode cX6_meetOf 60 = .ok (.getfield 31, 3) := by decide +kernel
theorem dX6_meetOf_63 : decode cX6_meetOf 63 = .ok (.iload 4, 2) := by decide +kernel
theorem dX6_meetOf_65 : decode cX6_meetOf 65 = .ok (.iaload, 1) := by decide +kernel
theorem dX6_meetOf_66 : decode cX6_meetOf 66 = .ok (.iload_n 3, 1) := by decide +kernel
theorem dX6_meetOf_67 : decode cX6_meetOf 67 = .ok (.if_icmp .ne 82, 3) := by decide +kernel
theorem dX6_meetOf_70 : decode cX6_meetOf 70 = .ok (.bipush 6, 2) := by decide +kernel
theorem dX6_meetOf_72 : decode cX6_meetOf 72 = .ok (.aload_n 0, 1) := by decide +kernel
theorem dX6_meetOf_73 : decode cX6_meetOf 73 = .ok (.getfield 19, 3) := by decide +kernel
theorem dX6_meetOf_76 : decode cX6_meetOf 76 = .ok (.iconst 2, 1) := by decide +kernel
theorem dX6_meetOf_77 : decode cX6_meetOf 77 = .ok (.iload 4, 2) := by decide +kernel
theorem dX6_meetOf_79 : decode cX6_meetOf 79 = .ok (.bipush 6, 2) := by decide +kernel
theorem dX6_meetOf_81 : decode cX6_meetOf 81 = .ok (.idiv, 1) := by decide +kernel
theorem dX6_meetOf_82 : decode cX6_meetOf 82 = .ok (.imul, 1) := by decide +kernel
theorem dX6_meetOf_83 : decode cX6_meetOf 83 = .ok (.iload 5, 2) := by decide +kernel
theorem dX6_meetOf_85 : decode cX6_meetOf 85 = .ok (.iconst 2, 1) := by decide +kernel
theorem dX6_meetOf_86 : decode cX6_meetOf 86 = .ok (.idiv, 1) := by decide +kernel
theorem dX6_meetOf_87 : decode cX6_meetOf 87 = .ok (.iadd, 1) := by decide +kernel
theorem dX6_meetOf_88 : decode cX6_meetOf 88 = .ok (.iaload, 1) := by decide +kernel
theorem dX6_meetOf_89 : decode cX6_meetOf 89 = .ok (.imul, 1) := by decide +kernel
theorem dX6_meetOf_90 : decode cX6_meetOf 90 = .ok (.aload_n 0, 1) := by decide +kernel
theorem dX6_meetOf_91 : decode cX6_meetOf 91 = .ok (.getfield 19, 3) := by decide +kernel
theorem dX6_meetOf_94 : decode cX6_meetOf 94 = .ok (.iconst 2, 1) := by decide +kernel
theorem dX6_meetOf_95 : decode cX6_meetOf 95 = .ok (.iload 4, 2) := by decide +kernel
theorem dX6_meetOf_97 : decode cX6_meetOf 97 = .ok (.bipush 6, 2) := by decide +kernel
theorem dX6_meetOf_99 : decode cX6_meetOf 99 = .ok (.irem, 1) := by decide +kernel
theorem dX6_meetOf_100 : decode cX6_meetOf 100 = .ok (.imul, 1) := by decide +kernel
theorem dX6_meetOf_101 : decode cX6_meetOf 101 = .ok (.iload 5, 2) := by decide +kernel
theorem dX6_meetOf_103 : decode cX6_meetOf 103 = .ok (.iconst 2, 1) := by decide +kernel
theorem dX6_meetOf_104 : decode cX6_meetOf 104 = .ok (.irem, 1) := by decide +kernel
theorem dX6_meetOf_105 : decode cX6_meetOf 105 = .ok (.iadd, 1) := by decide +kernel
theorem dX6_meetOf_106 : decode cX6_meetOf 106 = .ok (.iaload, 1) := by decide +kernel
theorem dX6_meetOf_107 : decode cX6_meetOf 107 = .ok (.iadd, 1) := by decide +kernel
theorem dX6_meetOf_108 : decode cX6_meetOf 108 = .ok (.istore 6, 2) := by decide +kernel
theorem dX6_meetOf_110 : decode cX6_meetOf 110 = .ok (.aload_n 0, 1) := by decide +kernel
theorem dX6_meetOf_111 : decode cX6_meetOf 111 = .ok (.getfield 31, 3) := by decide +kernel
theorem dX6_meetOf_114 : decode cX6_meetOf 114 = .ok (.iload 6, 2) := by decide +kernel
theorem dX6_meetOf_116 : decode cX6_meetOf 116 = .ok (.aload_n 0, 1) := by decide +kernel
theorem dX6_meetOf_117 : decode cX6_meetOf 117 = .ok (.getfield 31, 3) := by decide +kernel
theorem dX6_meetOf_120 : decode cX6_meetOf 120 = .ok (.iload 6, 2) := by decide +kernel
theorem dX6_meetOf_122 : decode cX6_meetOf 122 = .ok (.iaload, 1) := by decide +kernel
theorem dX6_meetOf_123 : decode cX6_meetOf 123 = .ok (.sipush 9999, 3) := by decide +kernel
theorem dX6_meetOf_126 : decode cX6_meetOf 126 = .ok (.if_icmp .ne 9, 3) := by decide +kernel
theorem dX6_meetOf_129 : decode cX6_meetOf 129 = .ok (.iload_n 3, 1) := by decide +kernel
theorem dX6_meetOf_130 : decode cX6_meetOf 130 = .ok (.iconst 1, 1) := by decide +kernel
theorem dX6_meetOf_131 : decode cX6_meetOf 131 = .ok (.iadd, 1) := by decide +kernel
theorem dX6_meetOf_132 : decode cX6_meetOf 132 = .ok (.goto 10, 3) := by decide +kernel
theorem dX6_meetOf_135 : decode cX6_meetOf 135 = .ok (.aload_n 0, 1) := by decide +kernel
theorem dX6_meetOf_136 : decode cX6_meetOf 136 = .ok (.getfield 31, 3) := by decide +kernel
theorem dX6_meetOf_139 : decode cX6_meetOf 139 = .ok (.iload 6, 2) := by decide +kernel
theorem dX6_meetOf_141 : decode cX6_meetOf 141 = .ok (.iaload, 1) := by decide +kernel
theorem dX6_meetOf_142 : decode cX6_meetOf 142 = .ok (.iastore, 1) := by decide +kernel
theorem dX6_meetOf_143 : decode cX6_meetOf 143 = .ok (.iinc 5 1, 3) := by decide +kernel
theorem dX6_meetOf_146 : decode cX6_meetOf 146 = .ok (.goto (-93), 3) := by decide +kernel
theorem dX6_meetOf_149 : decode cX6_meetOf 149 = .ok (.iinc 4 1, 3) := by decide +kernel
theorem dX6_meetOf_152 : decode cX6_meetOf 152 = .ok (.goto (-135), 3) := by decide +kernel
theorem dX6_meetOf_155 : decode cX6_meetOf 155 = .ok (.iinc 3 1, 3) := by decide +kernel
theorem dX6_meetOf_158 : decode cX6_meetOf 158 = .ok (.goto (-150), 3) := by decide +kernel
theorem dX6_meetOf_161 : decode cX6_meetOf 161 = .ok (.iconst (-1), 1) := by decide +kernel
theorem dX6_meetOf_162 : decode cX6_meetOf 162 = .ok (.ireturn, 1) := by decide +kernel
theorem dX6_meet_0 : decode cX6_meet 0 = .ok (.aload_n 0, 1) := by decide +kernel
theorem dX6_meet_1 : decode cX6_meet 1 = .ok (.iload_n 1, 1) := by decide +kernel
theorem dX6_meet_2 : decode cX6_meet 2 = .ok (.invokevirtual 123, 3) := by decide +kernel
theorem dX6_meet_5 : decode cX6_meet 5 = .ok (.ifCond .eq 34, 3) := by decide +kernel
theorem dX6_meet_8 : decode cX6_meet 8 = .ok (.aload_n 0, 1) := by decide +kernel
theorem dX6_meet_9 : decode cX6_meet 9 = .ok (.iload_n 2, 1) := by decide +kernel
theorem dX6_meet_10 : decode cX6_meet 10 = .ok (.invokevirtual 123, 3) := by decide +kernel
theorem dX6_meet_13 : decode cX6_meet 13 = .ok (.ifCond .eq 26, 3) := by decide +kernel
theorem dX6_meet_16 : decode cX6_meet 16 = .ok (.aload_n 0, 1) := by decide +kernel
theorem dX6_meet_17 : decode cX6_meet 17 = .ok (.aload_n 0, 1) := by decide +kernel
theorem dX6_meet_18 : decode cX6_meet 18 = .ok (.getfield 22, 3) := by decide +kernel
theorem dX6_meet_21 : decode cX6_meet 21 = .ok (.iconst 4, 1) := by decide +kernel
theorem dX6_meet_22 : decode cX6_meet 22 = .ok (.iload_n 1, 1) := by decide +kernel
theorem dX6_meet_23 : decode cX6_meet 23 = .ok (.imul, 1) := by decide +kernel
theorem dX6_meet_24 : decode cX6_meet 24 = .ok (.iaload, 1) := by decide +kernel
theorem dX6_meet_25 : decode cX6_meet 25 = .ok (.aload_n 0, 1) := by decide +kernel
theorem dX6_meet_26 : decode cX6_meet 26 = .ok (.getfield 22, 3) := by decide +kernel
theorem dX6_meet_29 : decode cX6_meet 29 = .ok (.iconst 4, 1) := by decide +kernel
theorem dX6_meet_30 : decode cX6_meet 30 = .ok (.iload_n 2, 1) := by decide +kernel
theorem dX6_meet_31 : decode cX6_meet 31 = .ok (.imul, 1) := by decide +kernel
theorem dX6_meet_32 : decode cX6_meet 32 = .ok (.iaload, 1) := by decide +kernel
theorem dX6_meet_33 : decode cX6_meet 33 = .ok (.invokevirtual 152, 3) := by decide +kernel
theorem dX6_meet_36 : decode cX6_meet 36 = .ok (.goto 5, 3) := by decide +kernel
theorem dX6_meet_39 : decode cX6_meet 39 = .ok (.bipush (-101), 2) := by decide +kernel
theorem dX6_meet_41 : decode cX6_meet 41 = .ok (.ireturn, 1) := by decide +kernel
theorem dX6_apartFrom_0 : decode cX6_apartFrom 0 = .ok (.aload_n 0, 1) := by decide +kernel
theorem dX6_apartFrom_1 : decode cX6_apartFrom 1 = .ok (.iload_n 1, 1) := by decide +kernel
theorem dX6_apartFrom_2 : decode cX6_apartFrom 2 = .ok (.iload_n 2, 1) := by decide +kernel
theorem dX6_apartFrom_3 : decode cX6_apartFrom 3 = .ok (.invokevirtual 148, 3) := by decide +kernel
theorem dX6_apartFrom_6 : decode cX6_apartFrom 6 = .ok (.iconst 0, 1) := by decide +kernel
theorem dX6_apartFrom_7 : decode cX6_apartFrom 7 = .ok (.istore_n 3, 1) := by decide +kernel
theorem dX6_apartFrom_8 : decode cX6_apartFrom 8 = .ok (.iload_n 3, 1) := by decide +kernel
theorem dX6_apartFrom_9 : decode cX6_apartFrom 9 = .ok (.bipush 36, 2) := by decide +kernel
theorem dX6_apartFrom_11 : decode cX6_apartFrom 11 = .ok (.if_icmp .ge 154, 3) := by decide +kernel
theorem dX6_apartFrom_14 : decode cX6_apartFrom 14 = .ok (.iconst 0, 1) := by decide +kernel
theorem dX6_apartFrom_15 : decode cX6_apartFrom 15 = .ok (.istore 4, 2) := by decide +kernel
theorem dX6_apartFrom_17 : decode cX6_apartFrom 17 = .ok (.iload 4, 2) := by decide +kernel
theorem dX6_apartFrom_19 : decode cX6_apartFrom 19 = .ok (.bipush 36, 2) := by decide +kernel
theorem dX6_apartFrom_21 : decode cX6_apartFrom 21 = .ok (.if_icmp .ge 138, 3) := by decide +kernel
theorem dX6_apartFrom_24 : decode cX6_apartFrom 24 = .ok (.aload_n 0, 1) := by decide +kernel
theorem dX6_apartFrom_25 : decode cX6_apartFrom 25 = .ok (.getfield 31, 3) := by decide +kernel
theorem dX6_apartFrom_28 : decode cX6_apartFrom 28 = .ok (.iload 4, 2) := by decide +kernel
theorem dX6_apartFrom_30 : decode cX6_apartFrom 30 = .ok (.iaload, 1) := by decide +kernel
theorem dX6_apartFrom_31 : decode cX6_apartFrom 31 = .ok (.iload_n 3, 1) := by decide +kernel
theorem dX6_apartFrom_32 : decode cX6_apartFrom 32 = .ok (.if_icmp .ne 26, 3) := by decide +kernel
theorem dX6_apartFrom_35 : decode cX6_apartFrom 35 = .ok (.aload_n 0, 1) := by decide +kernel
theorem dX6_apartFrom_36 : decode cX6_apartFrom 36 = .ok (.iload 4, 2) := by decide +kernel
theorem dX6_apartFrom_38 : decode cX6_apartFrom 38 = .ok (.bipush 6, 2) := by decide +kernel
theorem dX6_apartFrom_40 : decode cX6_apartFrom 40 = .ok (.idiv, 1) := by decide +kernel
theorem dX6_apartFrom_41 : decode cX6_apartFrom 41 = .ok (.invokevirtual 99, 3) := by decide +kernel
theorem dX6_apartFrom_44 : decode cX6_apartFrom 44 = .ok (.aload_n 0, 1) := by decide +kernel
theorem dX6_apartFrom_45 : decode cX6_apartFrom 45 = .ok (.iload 4, 2) := by decide +kernel
theorem dX6_apartFrom_47 : decode cX6_apartFrom 47 = .ok (.bipush 6, 2) := by decide +kernel
theorem dX6_apartFrom_49 : decode cX6_apartFrom 49 = .ok (.irem, 1) := by decide +kernel
theorem dX6_apartFrom_50 : decode cX6_apartFrom 50 = .ok (.invokevirtual 99, 3) := by decide +kernel
theorem dX6_apartFrom_53 : decode cX6_apartFrom 53 = .ok (.if_icmp .eq 5, 3) := by decide +kernel
theorem dX6_apartFrom_56 : decode cX6_apartFrom 56 = .ok (.iload_n 3, 1) := by decide +kernel
theorem dX6_apartFrom_57 : decode cX6_apartFrom 57 = .ok (.ireturn, 1) := by decide +kernel
theorem dX6_apartFrom_58 : decode cX6_apartFrom 58 = .ok (.iconst 0, 1) := by decide +kernel
theorem dX6_apartFrom_59 : decode cX6_apartFrom 59 = .ok (.istore 5, 2) := by decide +kernel
theorem dX6_apartFrom_61 : decode cX6_apartFrom 61 = .ok (.iload 5, 2) := by decide +kernel
theorem dX6_apartFrom_63 : decode cX6_apartFrom 63 = .ok (.iconst 2, 1) := by decide +kernel
theorem dX6_apartFrom_64 : decode cX6_apartFrom 64 = .ok (.if_icmp .ge 89, 3) := by decide +kernel
theorem dX6_apartFrom_67 : decode cX6_apartFrom 67 = .ok (.aload_n 0, 1) := by decide +kernel
theorem dX6_apartFrom_68 : decode cX6_apartFrom 68 = .ok (.getfield 31, 3) := by decide +kernel
theorem dX6_apartFrom_71 : decode cX6_apartFrom 71 = .ok (.iload 4, 2) := by decide +kernel
theorem dX6_apartFrom_73 : decode cX6_apartFrom 73 = .ok (.iaload, 1) := by decide +kernel
theorem dX6_apartFrom_74 : decode cX6_apartFrom 74 = .ok (.iload_n 3, 1) := by decide +kernel
theorem dX6_apartFrom_75 : decode cX6_apartFrom 75 = .ok (.if_icmp .ne 78, 3) := by decide +kernel
theorem dX6_apartFrom_78 : decode cX6_apartFrom 78 = .ok (.bipush 6, 2) := by decide +kernel
theorem dX6_apartFrom_80 : decode cX6_apartFrom 80 = .ok (.aload_n 0, 1) := by decide +kernel
theorem dX6_apartFrom_81 : decode cX6_apartFrom 81 = .ok (.getfield 19, 3) := by decide +kernel
theorem dX6_apartFrom_84 : decode cX6_apartFrom 84 = .ok (.iconst 2, 1) := by decide +kernel
theorem dX6_apartFrom_85 : decode cX6_apartFrom 85 = .ok (.iload 4, 2) := by decide +kernel
theorem dX6_apartFrom_87 : decode cX6_apartFrom 87 = .ok (.bipush 6, 2) := by decide +kernel
theorem dX6_apartFrom_89 : decode cX6_apartFrom 89 = .ok (.idiv, 1) := by decide +kernel
theorem dX6_apartFrom_90 : decode cX6_apartFrom 90 = .ok (.imul, 1) := by decide +kernel
theorem dX6_apartFrom_91 : decode cX6_apartFrom 91 = .ok (.iload 5, 2) := by decide +kernel
theorem dX6_apartFrom_93 : decode cX6_apartFrom 93 = .ok (.iadd, 1) := by decide +kernel
theorem dX6_apartFrom_94 : decode cX6_apartFrom 94 = .ok (.iaload, 1) := by decide +kernel
theorem dX6_apartFrom_95 : decode cX6_apartFrom 95 = .ok (.imul, 1) := by decide +kernel
theorem dX6_apartFrom_96 : decode cX6_apartFrom 96 = .ok (.aload_n 0, 1) := by decide +kernel
theorem dX6_apartFrom_97 : decode cX6_apartFrom 97 = .ok (.getfield 19, 3) := by decide +kernel
theorem dX6_apartFrom_100 : decode cX6_apartFrom 100 = .ok (.iconst 2, 1) := by decide +kernel
theorem dX6_apartFrom_101 : decode cX6_apartFrom 101 = .ok (.iload 4, 2) := by decide +kernel
theorem dX6_apartFrom_103 : decode cX6_apartFrom 103 = .ok (.bipush 6, 2) := by decide +kernel
theorem dX6_apartFrom_105 : decode cX6_apartFrom 105 = .ok (.irem, 1) := by decide +kernel
theorem dX6_apartFrom_106 : decode cX6_apartFrom 106 = .ok (.imul, 1) := by decide +kernel
theorem dX6_apartFrom_107 : decode cX6_apartFrom 107 = .ok (.iload 5, 2) := by decide +kernel
theorem dX6_apartFrom_109 : decode cX6_apartFrom 109 = .ok (.iadd, 1) := by decide +kernel
theorem dX6_apartFrom_110 : decode cX6_apartFrom 110 = .ok (.iaload, 1) := by decide +kernel
theorem dX6_apartFrom_111 : decode cX6_apartFrom 111 = .ok (.iadd, 1) := by decide +kernel
theorem dX6_apartFrom_112 : decode cX6_apartFrom 112 = .ok (.istore 6, 2) := by decide +kernel
theorem dX6_apartFrom_114 : decode cX6_apartFrom 114 = .ok (.aload_n 0, 1) := by decide +kernel
theorem dX6_apartFrom_115 : decode cX6_apartFrom 115 = .ok (.getfield 31, 3) := by decide +kernel
theorem dX6_apartFrom_118 : decode cX6_apartFrom 118 = .ok (.iload 6, 2) := by decide +kernel
theorem dX6_apartFrom_120 : decode cX6_apartFrom 120 = .ok (.aload_n 0, 1) := by decide +kernel
theorem dX6_apartFrom_121 : decode cX6_apartFrom 121 = .ok (.getfield 31, 3) := by decide +kernel
theorem dX6_apartFrom_124 : decode cX6_apartFrom 124 = .ok (.iload 6, 2) := by decide +kernel
theorem dX6_apartFrom_126 : decode cX6_apartFrom 126 = .ok (.iaload, 1) := by decide +kernel
theorem dX6_apartFrom_127 : decode cX6_apartFrom 127 = .ok (.sipush 9999, 3) := by decide +kernel
theorem dX6_apartFrom_130 : decode cX6_apartFrom 130 = .ok (.if_icmp .ne 9, 3) := by decide +kernel
theorem dX6_apartFrom_133 : decode cX6_apartFrom 133 = .ok (.iload_n 3, 1) := by decide +kernel
theorem dX6_apartFrom_134 : decode cX6_apartFrom 134 = .ok (.iconst 1, 1) := by decide +kernel
theorem dX6_apartFrom_135 : decode cX6_apartFrom 135 = .ok (.iadd, 1) := by decide +kernel
theorem dX6_apartFrom_136 : decode cX6_apartFrom 136 = .ok (.goto 10, 3) := by decide +kernel
theorem dX6_apartFrom_139 : decode cX6_apartFrom 139 = .ok (.aload_n 0, 1) := by decide +kernel
theorem dX6_apartFrom_140 : decode cX6_apartFrom 140 = .ok (.getfield 31, 3) := by decide +kernel
theorem dX6_apartFrom_143 : decode cX6_apartFrom 143 = .ok (.iload 6, 2) := by decide +kernel
theorem dX6_apartFrom_145 : decode cX6_apartFrom 145 = .ok (.iaload, 1) := by decide +kernel
theorem dX6_apartFrom_146 : decode cX6_apartFrom 146 = .ok (.iastore, 1) := by decide +kernel
theorem dX6_apartFrom_147 : decode cX6_apartFrom 147 = .ok (.iinc 5 1, 3) := by decide +kernel
theorem dX6_apartFrom_150 : decode cX6_apartFrom 150 = .ok (.goto (-89), 3) := by decide +kernel
theorem dX6_apartFrom_153 : decode cX6_apartFrom 153 = .ok (.iinc 4 1, 3) := by decide +kernel
theorem dX6_apartFrom_156 : decode cX6_apartFrom 156 = .ok (.goto (-139), 3) := by decide +kernel
theorem dX6_apartFrom_159 : decode cX6_apartFrom 159 = .ok (.iinc 3 1, 3) := by decide +kernel
theorem dX6_apartFrom_162 : decode cX6_apartFrom 162 = .ok (.goto (-154), 3) := by decide +kernel
theorem dX6_apartFrom_165 : decode cX6_apartFrom 165 = .ok (.sipush 9999, 3) := by decide +kernel
theorem dX6_apartFrom_168 : decode cX6_apartFrom 168 = .ok (.ireturn, 1) := by decide +kernel
theorem dX6_apartOf_0 : decode cX6_apartOf 0 = .ok (.aload_n 0, 1) := by decide +kernel
theorem dX6_apartOf_1 : decode cX6_apartOf 1 = .ok (.iload_n 1, 1) := by decide +kernel
theorem dX6_apartOf_2 : decode cX6_apartOf 2 = .ok (.iload_n 2, 1) := by decide +kernel
theorem dX6_apartOf_3 : decode cX6_apartOf 3 = .ok (.invokevirtual 155, 3) := by decide +kernel
theorem dX6_apartOf_6 : decode cX6_apartOf 6 = .ok (.istore 4, 2) := by decide +kernel
theorem dX6_apartOf_8 : decode cX6_apartOf 8 = .ok (.iload 4, 2) := by decide +kernel
theorem dX6_apartOf_10 : decode cX6_apartOf 10 = .ok (.sipush 9999, 3) := by decide +kernel
theorem dX6_apartOf_13 : decode cX6_apartOf 13 = .ok (.if_icmp .ne 5, 3) := by decide +kernel
theorem dX6_apartOf_16 : decode cX6_apartOf 16 = .ok (.iconst (-1), 1) := by decide +kernel
theorem dX6_apartOf_17 : decode cX6_apartOf 17 = .ok (.ireturn, 1) := by decide +kernel
theorem dX6_apartOf_18 : decode cX6_apartOf 18 = .ok (.iload_n 3, 1) := by decide +kernel
theorem dX6_apartOf_19 : decode cX6_apartOf 19 = .ok (.ifCond .ne 6, 3) := by decide +kernel
theorem dX6_apartOf_22 : decode cX6_apartOf 22 = .ok (.iload 4, 2) := by decide +kernel
theorem dX6_apartOf_24 : decode cX6_apartOf 24 = .ok (.ireturn, 1) := by decide +kernel
theorem dX6_apartOf_25 : decode cX6_apartOf 25 = .ok (.iload 4, 2) := by decide +kernel
theorem dX6_apartOf_27 : decode cX6_apartOf 27 = .ok (.ifCond .ne 7, 3) := by decide +kernel
theorem dX6_apartOf_30 : decode cX6_apartOf 30 = .ok (.iconst (-1), 1) := by decide +kernel
theorem dX6_apartOf_31 : decode cX6_apartOf 31 = .ok (.goto 35, 3) := by decide +kernel
theorem dX6_apartOf_34 : decode cX6_apartOf 34 = .ok (.aload_n 0, 1) := by decide +kernel
theorem dX6_apartOf_35 : decode cX6_apartOf 35 = .ok (.aload_n 0, 1) := by decide +kernel
theorem dX6_apartOf_36 : decode cX6_apartOf 36 = .ok (.getfield 19, 3) := by decide +kernel
theorem dX6_apartOf_39 : decode cX6_apartOf 39 = .ok (.iconst 2, 1) := by decide +kernel
theorem dX6_apartOf_40 : decode cX6_apartOf 40 = .ok (.iload_n 1, 1) := by decide +kernel
theorem dX6_apartOf_41 : decode cX6_apartOf 41 = .ok (.imul, 1) := by decide +kernel
theorem dX6_apartOf_42 : decode cX6_apartOf 42 = .ok (.iaload, 1) := by decide +kernel
theorem dX6_apartOf_43 : decode cX6_apartOf 43 = .ok (.aload_n 0, 1) := by decide +kernel
theorem dX6_apartOf_44 : decode cX6_apartOf 44 = .ok (.getfield 19, 3) := by decide +kernel
theorem dX6_apartOf_47 : decode cX6_apartOf 47 = .ok (.iconst 2, 1) := by decide +kernel
theorem dX6_apartOf_48 : decode cX6_apartOf 48 = .ok (.iload_n 2, 1) := by decide +kernel
theorem dX6_apartOf_49 : decode cX6_apartOf 49 = .ok (.imul, 1) := by decide +kernel
theorem dX6_apartOf_50 : decode cX6_apartOf 50 = .ok (.iaload, 1) := by decide +kernel
theorem dX6_apartOf_51 : decode cX6_apartOf 51 = .ok (.invokevirtual 155, 3) := by decide +kernel
theorem dX6_apartOf_54 : decode cX6_apartOf 54 = .ok (.iload 4, 2) := by decide +kernel
theorem dX6_apartOf_56 : decode cX6_apartOf 56 = .ok (.iconst 1, 1) := by decide +kernel
theorem dX6_apartOf_57 : decode cX6_apartOf 57 = .ok (.isub, 1) := by decide +kernel
theorem dX6_apartOf_58 : decode cX6_apartOf 58 = .ok (.if_icmp .ne 7, 3) := by decide +kernel
theorem dX6_apartOf_61 : decode cX6_apartOf 61 = .ok (.iconst 0, 1) := by decide +kernel
theorem dX6_apartOf_62 : decode cX6_apartOf 62 = .ok (.goto 4, 3) := by decide +kernel
theorem dX6_apartOf_65 : decode cX6_apartOf 65 = .ok (.iconst 1, 1) := by decide +kernel
theorem dX6_apartOf_66 : decode cX6_apartOf 66 = .ok (.ireturn, 1) := by decide +kernel
theorem dX6_apart_0 : decode cX6_apart 0 = .ok (.aload_n 0, 1) := by decide +kernel
theorem dX6_apart_1 : decode cX6_apart 1 = .ok (.iload_n 1, 1) := by decide +kernel
theorem dX6_apart_2 : decode cX6_apart 2 = .ok (.invokevirtual 108, 3) := by decide +kernel
theorem dX6_apart_5 : decode cX6_apart 5 = .ok (.ifCond .eq 11, 3) := by decide +kernel
theorem dX6_apart_8 : decode cX6_apart 8 = .ok (.aload_n 0, 1) := by decide +kernel
theorem dX6_apart_9 : decode cX6_apart 9 = .ok (.iload_n 2, 1) := by decide +kernel
theorem dX6_apart_10 : decode cX6_apart 10 = .ok (.invokevirtual 108, 3) := by decide +kernel
theorem dX6_apart_13 : decode cX6_apart 13 = .ok (.ifCond .ne 6, 3) := by decide +kernel
theorem dX6_apart_16 : decode cX6_apart 16 = .ok (.bipush (-101), 2) := by decide +kernel
theorem dX6_apart_18 : decode cX6_apart 18 = .ok (.ireturn, 1) := by decide +kernel
theorem dX6_apart_19 : decode cX6_apart 19 = .ok (.iload_n 3, 1) := by decide +kernel
theorem dX6_apart_20 : decode cX6_apart 20 = .ok (.i2l, 1) := by decide +kernel
theorem dX6_apart_21 : decode cX6_apart 21 = .ok (.lconst 0, 1) := by decide +kernel
theorem dX6_apart_22 : decode cX6_apart 22 = .ok (.lconst 1, 1) := by decide +kernel
theorem dX6_apart_23 : decode cX6_apart 23 = .ok (.invokestatic 49, 3) := by decide +kernel
theorem dX6_apart_26 : decode cX6_apart 26 = .ok (.ifCond .eq 13, 3) := by decide +kernel
theorem dX6_apart_29 : decode cX6_apart 29 = .ok (.aload_n 0, 1) := by decide +kernel
theorem dX6_apart_30 : decode cX6_apart 30 = .ok (.iload_n 1, 1) := by decide +kernel
theorem dX6_apart_31 : decode cX6_apart 31 = .ok (.iload_n 2, 1) := by decide +kernel
theorem dX6_apart_32 : decode cX6_apart 32 = .ok (.iload_n 3, 1) := by decide +kernel
theorem dX6_apart_33 : decode cX6_apart 33 = .ok (.invokevirtual 158, 3) := by decide +kernel
theorem dX6_apart_36 : decode cX6_apart 36 = .ok (.goto 5, 3) := by decide +kernel
theorem dX6_apart_39 : decode cX6_apart 39 = .ok (.bipush (-102), 2) := by decide +kernel
theorem dX6_apart_41 : decode cX6_apart 41 = .ok (.ireturn, 1) := by decide +kernel
theorem dX6_hear_0 : decode cX6_hear 0 = .ok (.aload_n 0, 1) := by decide +kernel
theorem dX6_hear_1 : decode cX6_hear 1 = .ok (.getfield 93, 3) := by decide +kernel
theorem dX6_hear_4 : decode cX6_hear 4 = .ok (.ifCond .ne 16, 3) := by decide +kernel
theorem dX6_hear_7 : decode cX6_hear 7 = .ok (.iload_n 1, 1) := by decide +kernel
theorem dX6_hear_8 : decode cX6_hear 8 = .ok (.iconst (-1), 1) := by decide +kernel
theorem dX6_hear_9 : decode cX6_hear 9 = .ok (.if_icmp .ne 7, 3) := by decide +kernel
theorem dX6_hear_12 : decode cX6_hear 12 = .ok (.iconst 1, 1) := by decide +kernel
theorem dX6_hear_13 : decode cX6_hear 13 = .ok (.goto 14, 3) := by decide +kernel
theorem dX6_hear_16 : decode cX6_hear 16 = .ok (.iconst 0, 1) := by decide +kernel
theorem dX6_hear_17 : decode cX6_hear 17 = .ok (.goto 10, 3) := by decide +kernel
theorem dX6_hear_20 : decode cX6_hear 20 = .ok (.iload_n 1, 1) := by decide +kernel
theorem dX6_hear_21 : decode cX6_hear 21 = .ok (.i2l, 1) := by decide +kernel
theorem dX6_hear_22 : decode cX6_hear 22 = .ok (.lconst 0, 1) := by decide +kernel
theorem dX6_hear_23 : decode cX6_hear 23 = .ok (.lconst 1, 1) := by decide +kernel
theorem dX6_hear_24 : decode cX6_hear 24 = .ok (.invokestatic 49, 3) := by decide +kernel
theorem dX6_hear_27 : decode cX6_hear 27 = .ok (.istore_n 3, 1) := by decide +kernel
theorem dX6_hear_28 : decode cX6_hear 28 = .ok (.iload_n 3, 1) := by decide +kernel
theorem dX6_hear_29 : decode cX6_hear 29 = .ok (.ifCond .eq 15, 3) := by decide +kernel
theorem dX6_hear_32 : decode cX6_hear 32 = .ok (.iload_n 2, 1) := by decide +kernel
theorem dX6_hear_33 : decode cX6_hear 33 = .ok (.i2l, 1) := by decide +kernel
theorem dX6_hear_34 : decode cX6_hear 34 = .ok (.lconst 0, 1) := by decide +kernel
theorem dX6_hear_35 : decode cX6_hear 35 = .ok (.ldc2_w 136, 3) := by decide +kernel
theorem dX6_hear_38 : decode cX6_hear 38 = .ok (.invokestatic 49, 3) := by decide +kernel
theorem dX6_hear_41 : decode cX6_hear 41 = .ok (.ifCond .ne 6, 3) := by decide +kernel
theorem dX6_hear_44 : decode cX6_hear 44 = .ok (.bipush (-102), 2) := by decide +kernel
theorem dX6_hear_46 : decode cX6_hear 46 = .ok (.ireturn, 1) := by decide +kernel
theorem dX6_hear_47 : decode cX6_hear 47 = .ok (.aload_n 0, 1) := by decide +kernel
theorem dX6_hear_48 : decode cX6_hear 48 = .ok (.getfield 93, 3) := by decide +kernel
theorem dX6_hear_51 : decode cX6_hear 51 = .ok (.bipush 8, 2) := by decide +kernel
theorem dX6_hear_53 : decode cX6_hear 53 = .ok (.if_icmp .ne 6, 3) := by decide +kernel
theorem dX6_hear_56 : decode cX6_hear 56 = .ok (.bipush (-104), 2) := by decide +kernel
theorem dX6_hear_58 : decode cX6_hear 58 = .ok (.ireturn, 1) := by decide +kernel
theorem dX6_hear_59 : decode cX6_hear 59 = .ok (.aload_n 0, 1) := by decide +kernel
theorem dX6_hear_60 : decode cX6_hear 60 = .ok (.getfield 34, 3) := by decide +kernel
theorem dX6_hear_63 : decode cX6_hear 63 = .ok (.iconst 2, 1) := by decide +kernel
theorem dX6_hear_64 : decode cX6_hear 64 = .ok (.aload_n 0, 1) := by decide +kernel
theorem dX6_hear_65 : decode cX6_hear 65 = .ok (.getfield 93, 3) := by decide +kernel
theorem dX6_hear_68 : decode cX6_hear 68 = .ok (.imul, 1) := by decide +kernel
theorem dX6_hear_69 : decode cX6_hear 69 = .ok (.iload_n 1, 1) := by decide +kernel
theorem dX6_hear_70 : decode cX6_hear 70 = .ok (.iastore, 1) := by decide +kernel
theorem dX6_hear_71 : decode cX6_hear 71 = .ok (.aload_n 0, 1) := by decide +kernel
theorem dX6_hear_72 : decode cX6_hear 72 = .ok (.getfield 34, 3) := by decide +kernel
theorem dX6_hear_75 : decode cX6_hear 75 = .ok (.iconst 2, 1) := by decide +kernel
theorem dX6_hear_76 : decode cX6_hear 76 = .ok (.aload_n 0, 1) := by decide +kernel
theorem dX6_hear_77 : decode cX6_hear 77 = .ok (.getfield 93, 3) := by decide +kernel
theorem dX6_hear_80 : decode cX6_hear 80 = .ok (.imul, 1) := by decide +kernel
theorem dX6_hear_81 : decode cX6_hear 81 = .ok (.iconst 1, 1) := by decide +kernel
theorem dX6_hear_82 : decode cX6_hear 82 = .ok (.iadd, 1) := by decide +kernel
theorem dX6_hear_83 : decode cX6_hear 83 = .ok (.iload_n 2, 1) := by decide +kernel
theorem dX6_hear_84 : decode cX6_hear 84 = .ok (.iastore, 1) := by decide +kernel
theorem dX6_hear_85 : decode cX6_hear 85 = .ok (.aload_n 0, 1) := by decide +kernel
theorem dX6_hear_86 : decode cX6_hear 86 = .ok (.dup, 1) := by decide +kernel
theorem dX6_hear_87 : decode cX6_hear 87 = .ok (.getfield 93, 3) := by decide +kernel
theorem dX6_hear_90 : decode cX6_hear 90 = .ok (.iconst 1, 1) := by decide +kernel
theorem dX6_hear_91 : decode cX6_hear 91 = .ok (.iadd, 1) := by decide +kernel
theorem dX6_hear_92 : decode cX6_hear 92 = .ok (.putfield 93, 3) := by decide +kernel
theorem dX6_hear_95 : decode cX6_hear 95 = .ok (.aload_n 0, 1) := by decide +kernel
theorem dX6_hear_96 : decode cX6_hear 96 = .ok (.getfield 93, 3) := by decide +kernel
theorem dX6_hear_99 : decode cX6_hear 99 = .ok (.ireturn, 1) := by decide +kernel
theorem dX6_forget_0 : decode cX6_forget 0 = .ok (.aload_n 0, 1) := by decide +kernel
theorem dX6_forget_1 : decode cX6_forget 1 = .ok (.getfield 93, 3) := by decide +kernel
theorem dX6_forget_4 : decode cX6_forget 4 = .ok (.istore_n 1, 1) := by decide +kernel
theorem dX6_forget_5 : decode cX6_forget 5 = .ok (.aload_n 0, 1) := by decide +kernel
theorem dX6_forget_6 : decode cX6_forget 6 = .ok (.iconst 0, 1) := by decide +kernel
theorem dX6_forget_7 : decode cX6_forget 7 = .ok (.putfield 93, 3) := by decide +kernel
theorem dX6_forget_10 : decode cX6_forget 10 = .ok (.iload_n 1, 1) := by decide +kernel
theorem dX6_forget_11 : decode cX6_forget 11 = .ok (.ireturn, 1) := by decide +kernel
theorem dX6_steppedFrom_0 : decode cX6_steppedFrom 0 = .ok (.iconst 0, 1) := by decide +kernel
theorem dX6_steppedFrom_1 : decode cX6_steppedFrom 1 = .ok (.istore_n 3, 1) := by decide +kernel
theorem dX6_steppedFrom_2 : decode cX6_steppedFrom 2 = .ok (.iconst 0, 1) := by decide +kernel
theorem dX6_steppedFrom_3 : decode cX6_steppedFrom 3 = .ok (.istore 4, 2) := by decide +kernel
theorem dX6_steppedFrom_5 : decode cX6_steppedFrom 5 = .ok (.iload 4, 2) := by decide +kernel
theorem dX6_steppedFrom_7 : decode cX6_steppedFrom 7 = .ok (.aload_n 0, 1) := by decide +kernel
theorem dX6_steppedFrom_8 : decode cX6_steppedFrom 8 = .ok (.getfield 84, 3) := by decide +kernel
theorem dX6_steppedFrom_11 : decode cX6_steppedFrom 11 = .ok (.if_icmp .ge 39, 3) := by decide +kernel
theorem dX6_steppedFrom_14 : decode cX6_steppedFrom 14 = .ok (.iload_n 3, 1) := by decide +kernel
theorem dX6_steppedFrom_15 : decode cX6_steppedFrom 15 = .ok (.iload_n 1, 1) := by decide +kernel
theorem dX6_steppedFrom_16 : decode cX6_steppedFrom 16 = .ok (.iload 4, 2) := by decide +kernel
theorem dX6_steppedFrom_18 : decode cX6_steppedFrom 18 = .ok (.ishr, 1) := by decide +kernel
theorem dX6_steppedFrom_19 : decode cX6_steppedFrom 19 = .ok (.iconst 1, 1) := by decide +kernel
theorem dX6_steppedFrom_20 : decode cX6_steppedFrom 20 = .ok (.iand, 1) := by decide +kernel
theorem dX6_steppedFrom_21 : decode cX6_steppedFrom 21 = .ok (.iconst 1, 1) := by decide +kernel
theorem dX6_steppedFrom_22 : decode cX6_steppedFrom 22 = .ok (.if_icmp .ne 19, 3) := by decide +kernel
theorem dX6_steppedFrom_25 : decode cX6_steppedFrom 25 = .ok (.iconst 1, 1) := by decide +kernel
theorem dX6_steppedFrom_26 : decode cX6_steppedFrom 26 = .ok (.aload_n 0, 1) := by decide +kernel
theorem dX6_steppedFrom_27 : decode cX6_steppedFrom 27 = .ok (.getfield 19, 3) := by decide +kernel
theorem dX6_steppedFrom_30 : decode cX6_steppedFrom 30 = .ok (.iconst 2, 1) := by decide +kernel
theorem dX6_steppedFrom_31 : decode cX6_steppedFrom 31 = .ok (.iload 4, 2) := by decide +kernel
theorem dX6_steppedFrom_33 : decode cX6_steppedFrom 33 = .ok (.imul, 1) := by decide +kernel
theorem dX6_steppedFrom_34 : decode cX6_steppedFrom 34 = .ok (.iload_n 2, 1) := by decide +kernel
theorem dX6_steppedFrom_35 : decode cX6_steppedFrom 35 = .ok (.iadd, 1) := by decide +kernel
theorem dX6_steppedFrom_36 : decode cX6_steppedFrom 36 = .ok (.iaload, 1) := by decide +kernel
theorem dX6_steppedFrom_37 : decode cX6_steppedFrom 37 = .ok (.ishl, 1) := by decide +kernel
theorem dX6_steppedFrom_38 : decode cX6_steppedFrom 38 = .ok (.goto 4, 3) := by decide +kernel
theorem dX6_steppedFrom_41 : decode cX6_steppedFrom 41 = .ok (.iconst 0, 1) := by decide +kernel
theorem dX6_steppedFrom_42 : decode cX6_steppedFrom 42 = .ok (.ior, 1) := by decide +kernel
theorem dX6_steppedFrom_43 : decode cX6_steppedFrom 43 = .ok (.istore_n 3, 1) := by decide +kernel
theorem dX6_steppedFrom_44 : decode cX6_steppedFrom 44 = .ok (.iinc 4 1, 3) := by decide +kernel
theorem dX6_steppedFrom_47 : decode cX6_steppedFrom 47 = .ok (.goto (-42), 3) := by decide +kernel
theorem dX6_steppedFrom_50 : decode cX6_steppedFrom 50 = .ok (.iload_n 3, 1) := by decide +kernel
theorem dX6_steppedFrom_51 : decode cX6_steppedFrom 51 = .ok (.ireturn, 1) := by decide +kernel
theorem dX6_soundingIn_0 : decode cX6_soundingIn 0 = .ok (.iconst 0, 1) := by decide +kernel
theorem dX6_soundingIn_1 : decode cX6_soundingIn 1 = .ok (.istore_n 3, 1) := by decide +kernel
theorem dX6_soundingIn_2 : decode cX6_soundingIn 2 = .ok (.iconst 0, 1) := by decide +kernel
theorem dX6_soundingIn_3 : decode cX6_soundingIn 3 = .ok (.istore 4, 2) := by decide +kernel
theorem dX6_soundingIn_5 : decode cX6_soundingIn 5 = .ok (.iload 4, 2) := by decide +kernel
theorem dX6_soundingIn_7 : decode cX6_soundingIn 7 = .ok (.aload_n 0, 1) := by decide +kernel
theorem dX6_soundingIn_8 : decode cX6_soundingIn 8 = .ok (.getfield 84, 3) := by decide +kernel
theorem dX6_soundingIn_11 : decode cX6_soundingIn 11 = .ok (.if_icmp .ge 40, 3) := by decide +kernel
theorem dX6_soundingIn_14 : decode cX6_soundingIn 14 = .ok (.iload_n 3, 1) := by decide +kernel
theorem dX6_soundingIn_15 : decode cX6_soundingIn 15 = .ok (.iload_n 1, 1) := by decide +kernel
theorem dX6_soundingIn_16 : decode cX6_soundingIn 16 = .ok (.iload 4, 2) := by decide +kernel
theorem dX6_soundingIn_18 : decode cX6_soundingIn 18 = .ok (.ishr, 1) := by decide +kernel
theorem dX6_soundingIn_19 : decode cX6_soundingIn 19 = .ok (.iconst 1, 1) := by decide +kernel
theorem dX6_soundingIn_20 : decode cX6_soundingIn 20 = .ok (.iand, 1) := by decide +kernel
theorem dX6_soundingIn_21 : decode cX6_soundingIn 21 = .ok (.iconst 1, 1) := by decide +kernel
theorem dX6_soundingIn_22 : decode cX6_soundingIn 22 = .ok (.if_icmp .ne 20, 3) := by decide +kernel
theorem dX6_soundingIn_25 : decode cX6_soundingIn 25 = .ok (.aload_n 0, 1) := by decide +kernel
theorem dX6_soundingIn_26 : decode cX6_soundingIn 26 = .ok (.iload 4, 2) := by decide +kernel
theorem dX6_soundingIn_28 : decode cX6_soundingIn 28 = .ok (.invokevirtual 99, 3) := by decide +kernel
theorem dX6_soundingIn_31 : decode cX6_soundingIn 31 = .ok (.iload_n 2, 1) := by decide +kernel
theorem dX6_soundingIn_32 : decode cX6_soundingIn 32 = .ok (.if_icmp .ne 10, 3) := by decide +kernel
theorem dX6_soundingIn_35 : decode cX6_soundingIn 35 = .ok (.iconst 1, 1) := by decide +kernel
theorem dX6_soundingIn_36 : decode cX6_soundingIn 36 = .ok (.iload 4, 2) := by decide +kernel
theorem dX6_soundingIn_38 : decode cX6_soundingIn 38 = .ok (.ishl, 1) := by decide +kernel
theorem dX6_soundingIn_39 : decode cX6_soundingIn 39 = .ok (.goto 4, 3) := by decide +kernel
theorem dX6_soundingIn_42 : decode cX6_soundingIn 42 = .ok (.iconst 0, 1) := by decide +kernel
theorem dX6_soundingIn_43 : decode cX6_soundingIn 43 = .ok (.ior, 1) := by decide +kernel
theorem dX6_soundingIn_44 : decode cX6_soundingIn 44 = .ok (.istore_n 3, 1) := by decide +kernel
theorem dX6_soundingIn_45 : decode cX6_soundingIn 45 = .ok (.iinc 4 1, 3) := by decide +kernel
theorem dX6_soundingIn_48 : decode cX6_soundingIn 48 = .ok (.goto (-43), 3) := by decide +kernel
theorem dX6_soundingIn_51 : decode cX6_soundingIn 51 = .ok (.iload_n 3, 1) := by decide +kernel
theorem dX6_soundingIn_52 : decode cX6_soundingIn 52 = .ok (.ireturn, 1) := by decide +kernel
theorem dX6_whereOf_0 : decode cX6_whereOf 0 = .ok (.iconst 1, 1) := by decide +kernel
theorem dX6_whereOf_1 : decode cX6_whereOf 1 = .ok (.aload_n 0, 1) := by decide +kernel
theorem dX6_whereOf_2 : decode cX6_whereOf 2 = .ok (.getfield 84, 3) := by decide +kernel
theorem dX6_whereOf_5 : decode cX6_whereOf 5 = .ok (.ishl, 1) := by decide +kernel
theorem dX6_whereOf_6 : decode cX6_whereOf 6 = .ok (.iconst 1, 1) := by decide +kernel
theorem dX6_whereOf_7 : decode cX6_whereOf 7 = .ok (.isub, 1) := by decide +kernel
theorem dX6_whereOf_8 : decode cX6_whereOf 8 = .ok (.istore_n 1, 1) := by decide +kernel
theorem dX6_whereOf_9 : decode cX6_whereOf 9 = .ok (.iconst 0, 1) := by decide +kernel
theorem dX6_whereOf_10 : decode cX6_whereOf 10 = .ok (.istore_n 2, 1) := by decide +kernel
theorem dX6_whereOf_11 : decode cX6_whereOf 11 = .ok (.iload_n 2, 1) := by decide +kernel
theorem dX6_whereOf_12 : decode cX6_whereOf 12 = .ok (.aload_n 0, 1) := by decide +kernel
theorem dX6_whereOf_13 : decode cX6_whereOf 13 = .ok (.getfield 93, 3) := by decide +kernel
theorem dX6_whereOf_16 : decode cX6_whereOf 16 = .ok (.if_icmp .ge 47, 3) := by decide +kernel
