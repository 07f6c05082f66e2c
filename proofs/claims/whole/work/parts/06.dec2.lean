theorem dX5_mine_4 : decode cX5_mine 4 = .ok (.invokevirtual 54, 3) := by decide +kernel
theorem dX5_mine_7 : decode cX5_mine 7 = .ok (.ifCond .ne 6, 3) := by decide +kernel
theorem dX5_mine_10 : decode cX5_mine 10 = .ok (.bipush (-103), 2) := by decide +kernel
theorem dX5_mine_12 : decode cX5_mine 12 = .ok (.ireturn, 1) := by decide +kernel
theorem dX5_mine_13 : decode cX5_mine 13 = .ok (.aload_n 0, 1) := by decide +kernel
theorem dX5_mine_14 : decode cX5_mine 14 = .ok (.getfield 19, 3) := by decide +kernel
theorem dX5_mine_17 : decode cX5_mine 17 = .ok (.aload_n 0, 1) := by decide +kernel
theorem dX5_mine_18 : decode cX5_mine 18 = .ok (.getfield 12, 3) := by decide +kernel
theorem dX5_mine_21 : decode cX5_mine 21 = .ok (.invokevirtual 58, 3) := by decide +kernel
theorem dX5_mine_24 : decode cX5_mine 24 = .ok (.aload_n 0, 1) := by decide +kernel
theorem dX5_mine_25 : decode cX5_mine 25 = .ok (.getfield 28, 3) := by decide +kernel
theorem dX5_mine_28 : decode cX5_mine 28 = .ok (.invokevirtual 62, 3) := by decide +kernel
theorem dX5_mine_31 : decode cX5_mine 31 = .ok (.aload_n 0, 1) := by decide +kernel
theorem dX5_mine_32 : decode cX5_mine 32 = .ok (.getfield 35, 3) := by decide +kernel
theorem dX5_mine_35 : decode cX5_mine 35 = .ok (.invokevirtual 65, 3) := by decide +kernel
theorem dX5_mine_38 : decode cX5_mine 38 = .ok (.aload_n 0, 1) := by decide +kernel
theorem dX5_mine_39 : decode cX5_mine 39 = .ok (.iconst 0, 1) := by decide +kernel
theorem dX5_mine_40 : decode cX5_mine 40 = .ok (.putfield 68, 3) := by decide +kernel
theorem dX5_mine_43 : decode cX5_mine 43 = .ok (.aload_n 0, 1) := by decide +kernel
theorem dX5_mine_44 : decode cX5_mine 44 = .ok (.dup, 1) := by decide +kernel
theorem dX5_mine_45 : decode cX5_mine 45 = .ok (.getfield 72, 3) := by decide +kernel
theorem dX5_mine_48 : decode cX5_mine 48 = .ok (.iconst 1, 1) := by decide +kernel
theorem dX5_mine_49 : decode cX5_mine 49 = .ok (.iadd, 1) := by decide +kernel
theorem dX5_mine_50 : decode cX5_mine 50 = .ok (.putfield 72, 3) := by decide +kernel
theorem dX5_mine_53 : decode cX5_mine 53 = .ok (.aload_n 0, 1) := by decide +kernel
theorem dX5_mine_54 : decode cX5_mine 54 = .ok (.getfield 12, 3) := by decide +kernel
theorem dX5_mine_57 : decode cX5_mine 57 = .ok (.iconst 0, 1) := by decide +kernel
theorem dX5_mine_58 : decode cX5_mine 58 = .ok (.putfield 42, 3) := by decide +kernel
theorem dX5_mine_61 : decode cX5_mine 61 = .ok (.aload_n 0, 1) := by decide +kernel
theorem dX5_mine_62 : decode cX5_mine 62 = .ok (.getfield 19, 3) := by decide +kernel
theorem dX5_mine_65 : decode cX5_mine 65 = .ok (.getfield 75, 3) := by decide +kernel
theorem dX5_mine_68 : decode cX5_mine 68 = .ok (.ireturn, 1) := by decide +kernel
theorem dX5_crossing_0 : decode cX5_crossing 0 = .ok (.aload_n 0, 1) := by decide +kernel
theorem dX5_crossing_1 : decode cX5_crossing 1 = .ok (.getfield 19, 3) := by decide +kernel
theorem dX5_crossing_4 : decode cX5_crossing 4 = .ok (.iload_n 1, 1) := by decide +kernel
theorem dX5_crossing_5 : decode cX5_crossing 5 = .ok (.invokevirtual 76, 3) := by decide +kernel
theorem dX5_crossing_8 : decode cX5_crossing 8 = .ok (.ifCond .ne 6, 3) := by decide +kernel
theorem dX5_crossing_11 : decode cX5_crossing 11 = .ok (.bipush (-101), 2) := by decide +kernel
theorem dX5_crossing_13 : decode cX5_crossing 13 = .ok (.ireturn, 1) := by decide +kernel
theorem dX5_crossing_14 : decode cX5_crossing 14 = .ok (.iload_n 2, 1) := by decide +kernel
theorem dX5_crossing_15 : decode cX5_crossing 15 = .ok (.tableswitch 93 0 5 #[37, 46, 56, 66, 75, 84], 37) := by decide +kernel
theorem dX5_crossing_52 : decode cX5_crossing 52 = .ok (.aload_n 0, 1) := by decide +kernel
theorem dX5_crossing_53 : decode cX5_crossing 53 = .ok (.getfield 19, 3) := by decide +kernel
theorem dX5_crossing_56 : decode cX5_crossing 56 = .ok (.iload_n 1, 1) := by decide +kernel
theorem dX5_crossing_57 : decode cX5_crossing 57 = .ok (.invokevirtual 80, 3) := by decide +kernel
theorem dX5_crossing_60 : decode cX5_crossing 60 = .ok (.ireturn, 1) := by decide +kernel
theorem dX5_crossing_61 : decode cX5_crossing 61 = .ok (.aload_n 0, 1) := by decide +kernel
theorem dX5_crossing_62 : decode cX5_crossing 62 = .ok (.getfield 19, 3) := by decide +kernel
theorem dX5_crossing_65 : decode cX5_crossing 65 = .ok (.iload_n 1, 1) := by decide +kernel
theorem dX5_crossing_66 : decode cX5_crossing 66 = .ok (.iconst 0, 1) := by decide +kernel
theorem dX5_crossing_67 : decode cX5_crossing 67 = .ok (.invokevirtual 84, 3) := by decide +kernel
theorem dX5_crossing_70 : decode cX5_crossing 70 = .ok (.ireturn, 1) := by decide +kernel
theorem dX5_crossing_71 : decode cX5_crossing 71 = .ok (.aload_n 0, 1) := by decide +kernel
theorem dX5_crossing_72 : decode cX5_crossing 72 = .ok (.getfield 19, 3) := by decide +kernel
theorem dX5_crossing_75 : decode cX5_crossing 75 = .ok (.iload_n 1, 1) := by decide +kernel
theorem dX5_crossing_76 : decode cX5_crossing 76 = .ok (.iconst 1, 1) := by decide +kernel
theorem dX5_crossing_77 : decode cX5_crossing 77 = .ok (.invokevirtual 84, 3) := by decide +kernel
theorem dX5_crossing_80 : decode cX5_crossing 80 = .ok (.ireturn, 1) := by decide +kernel
theorem dX5_crossing_81 : decode cX5_crossing 81 = .ok (.aload_n 0, 1) := by decide +kernel
theorem dX5_crossing_82 : decode cX5_crossing 82 = .ok (.getfield 19, 3) := by decide +kernel
theorem dX5_crossing_85 : decode cX5_crossing 85 = .ok (.iload_n 1, 1) := by decide +kernel
theorem dX5_crossing_86 : decode cX5_crossing 86 = .ok (.invokevirtual 88, 3) := by decide +kernel
theorem dX5_crossing_89 : decode cX5_crossing 89 = .ok (.ireturn, 1) := by decide +kernel
theorem dX5_crossing_90 : decode cX5_crossing 90 = .ok (.aload_n 0, 1) := by decide +kernel
theorem dX5_crossing_91 : decode cX5_crossing 91 = .ok (.getfield 19, 3) := by decide +kernel
theorem dX5_crossing_94 : decode cX5_crossing 94 = .ok (.iload_n 1, 1) := by decide +kernel
theorem dX5_crossing_95 : decode cX5_crossing 95 = .ok (.invokevirtual 91, 3) := by decide +kernel
theorem dX5_crossing_98 : decode cX5_crossing 98 = .ok (.ireturn, 1) := by decide +kernel
theorem dX5_crossing_99 : decode cX5_crossing 99 = .ok (.aload_n 0, 1) := by decide +kernel
theorem dX5_crossing_100 : decode cX5_crossing 100 = .ok (.getfield 35, 3) := by decide +kernel
theorem dX5_crossing_103 : decode cX5_crossing 103 = .ok (.iload_n 1, 1) := by decide +kernel
theorem dX5_crossing_104 : decode cX5_crossing 104 = .ok (.invokevirtual 94, 3) := by decide +kernel
theorem dX5_crossing_107 : decode cX5_crossing 107 = .ok (.ireturn, 1) := by decide +kernel
theorem dX5_crossing_108 : decode cX5_crossing 108 = .ok (.bipush (-102), 2) := by decide +kernel
theorem dX5_crossing_110 : decode cX5_crossing 110 = .ok (.ireturn, 1) := by decide +kernel
theorem dX5_as_0 : decode cX5_as 0 = .ok (.aload_n 0, 1) := by decide +kernel
theorem dX5_as_1 : decode cX5_as 1 = .ok (.getfield 19, 3) := by decide +kernel
theorem dX5_as_4 : decode cX5_as 4 = .ok (.iload_n 1, 1) := by decide +kernel
theorem dX5_as_5 : decode cX5_as 5 = .ok (.invokevirtual 76, 3) := by decide +kernel
theorem dX5_as_8 : decode cX5_as 8 = .ok (.ifCond .ne 6, 3) := by decide +kernel
theorem dX5_as_11 : decode cX5_as 11 = .ok (.bipush (-101), 2) := by decide +kernel
theorem dX5_as_13 : decode cX5_as 13 = .ok (.ireturn, 1) := by decide +kernel
theorem dX5_as_14 : decode cX5_as 14 = .ok (.iload_n 2, 1) := by decide +kernel
theorem dX5_as_15 : decode cX5_as 15 = .ok (.ifCond .lt 8, 3) := by decide +kernel
theorem dX5_as_18 : decode cX5_as 18 = .ok (.iload_n 2, 1) := by decide +kernel
theorem dX5_as_19 : decode cX5_as 19 = .ok (.iconst 5, 1) := by decide +kernel
theorem dX5_as_20 : decode cX5_as 20 = .ok (.if_icmp .lt 6, 3) := by decide +kernel
theorem dX5_as_23 : decode cX5_as 23 = .ok (.bipush (-102), 2) := by decide +kernel
theorem dX5_as_25 : decode cX5_as 25 = .ok (.ireturn, 1) := by decide +kernel
theorem dX5_as_26 : decode cX5_as 26 = .ok (.aload_n 0, 1) := by decide +kernel
theorem dX5_as_27 : decode cX5_as 27 = .ok (.getfield 19, 3) := by decide +kernel
theorem dX5_as_30 : decode cX5_as 30 = .ok (.iload_n 1, 1) := by decide +kernel
theorem dX5_as_31 : decode cX5_as 31 = .ok (.invokevirtual 80, 3) := by decide +kernel
theorem dX5_as_34 : decode cX5_as 34 = .ok (.iload_n 2, 1) := by decide +kernel
theorem dX5_as_35 : decode cX5_as 35 = .ok (.invokestatic 97, 3) := by decide +kernel
theorem dX5_as_38 : decode cX5_as 38 = .ok (.ifCond .eq 7, 3) := by decide +kernel
theorem dX5_as_41 : decode cX5_as 41 = .ok (.iload_n 1, 1) := by decide +kernel
theorem dX5_as_42 : decode cX5_as 42 = .ok (.goto 4, 3) := by decide +kernel
theorem dX5_as_45 : decode cX5_as 45 = .ok (.iconst (-1), 1) := by decide +kernel
theorem dX5_as_46 : decode cX5_as 46 = .ok (.ireturn, 1) := by decide +kernel
theorem dX5_party_0 : decode cX5_party 0 = .ok (.aload_n 0, 1) := by decide +kernel
theorem dX5_party_1 : decode cX5_party 1 = .ok (.getfield 19, 3) := by decide +kernel
theorem dX5_party_4 : decode cX5_party 4 = .ok (.iload_n 1, 1) := by decide +kernel
theorem dX5_party_5 : decode cX5_party 5 = .ok (.invokevirtual 76, 3) := by decide +kernel
theorem dX5_party_8 : decode cX5_party 8 = .ok (.ifCond .ne 6, 3) := by decide +kernel
theorem dX5_party_11 : decode cX5_party 11 = .ok (.bipush (-101), 2) := by decide +kernel
theorem dX5_party_13 : decode cX5_party 13 = .ok (.ireturn, 1) := by decide +kernel
theorem dX5_party_14 : decode cX5_party 14 = .ok (.aload_n 0, 1) := by decide +kernel
theorem dX5_party_15 : decode cX5_party 15 = .ok (.getfield 35, 3) := by decide +kernel
theorem dX5_party_18 : decode cX5_party 18 = .ok (.getfield 101, 3) := by decide +kernel
theorem dX5_party_21 : decode cX5_party 21 = .ok (.iconst 3, 1) := by decide +kernel
theorem dX5_party_22 : decode cX5_party 22 = .ok (.if_icmp .lt 6, 3) := by decide +kernel
theorem dX5_party_25 : decode cX5_party 25 = .ok (.bipush (-104), 2) := by decide +kernel
theorem dX5_party_27 : decode cX5_party 27 = .ok (.ireturn, 1) := by decide +kernel
theorem dX5_party_28 : decode cX5_party 28 = .ok (.aload_n 0, 1) := by decide +kernel
theorem dX5_party_29 : decode cX5_party 29 = .ok (.getfield 35, 3) := by decide +kernel
theorem dX5_party_32 : decode cX5_party 32 = .ok (.iload_n 1, 1) := by decide +kernel
theorem dX5_party_33 : decode cX5_party 33 = .ok (.aload_n 0, 1) := by decide +kernel
theorem dX5_party_34 : decode cX5_party 34 = .ok (.getfield 19, 3) := by decide +kernel
theorem dX5_party_37 : decode cX5_party 37 = .ok (.getfield 104, 3) := by decide +kernel
theorem dX5_party_40 : decode cX5_party 40 = .ok (.invokevirtual 107, 3) := by decide +kernel
theorem dX5_party_43 : decode cX5_party 43 = .ok (.ireturn, 1) := by decide +kernel
theorem dX5_about_0 : decode cX5_about 0 = .ok (.aload_n 0, 1) := by decide +kernel
theorem dX5_about_1 : decode cX5_about 1 = .ok (.getfield 35, 3) := by decide +kernel
theorem dX5_about_4 : decode cX5_about 4 = .ok (.iload_n 1, 1) := by decide +kernel
theorem dX5_about_5 : decode cX5_about 5 = .ok (.invokevirtual 110, 3) := by decide +kernel
theorem dX5_about_8 : decode cX5_about 8 = .ok (.ifCond .ne 6, 3) := by decide +kernel
theorem dX5_about_11 : decode cX5_about 11 = .ok (.bipush (-101), 2) := by decide +kernel
theorem dX5_about_13 : decode cX5_about 13 = .ok (.ireturn, 1) := by decide +kernel
theorem dX5_about_14 : decode cX5_about 14 = .ok (.iload_n 2, 1) := by decide +kernel
theorem dX5_about_15 : decode cX5_about 15 = .ok (.tableswitch 95 0 4 #[33, 45, 57, 69, 78], 33) := by decide +kernel
theorem dX5_about_48 : decode cX5_about 48 = .ok (.aload_n 0, 1) := by decide +kernel
theorem dX5_about_49 : decode cX5_about 49 = .ok (.getfield 35, 3) := by decide +kernel
theorem dX5_about_52 : decode cX5_about 52 = .ok (.getfield 111, 3) := by decide +kernel
theorem dX5_about_55 : decode cX5_about 55 = .ok (.iload_n 1, 1) := by decide +kernel
theorem dX5_about_56 : decode cX5_about 56 = .ok (.invokestatic 115, 3) := by decide +kernel
theorem dX5_about_59 : decode cX5_about 59 = .ok (.ireturn, 1) := by decide +kernel
theorem dX5_about_60 : decode cX5_about 60 = .ok (.aload_n 0, 1) := by decide +kernel
theorem dX5_about_61 : decode cX5_about 61 = .ok (.getfield 35, 3) := by decide +kernel
theorem dX5_about_64 : decode cX5_about 64 = .ok (.getfield 119, 3) := by decide +kernel
theorem dX5_about_67 : decode cX5_about 67 = .ok (.iload_n 1, 1) := by decide +kernel
theorem dX5_about_68 : decode cX5_about 68 = .ok (.invokestatic 115, 3) := by decide +kernel
theorem dX5_about_71 : decode cX5_about 71 = .ok (.ireturn, 1) := by decide +kernel
theorem dX5_about_72 : decode cX5_about 72 = .ok (.aload_n 0, 1) := by decide +kernel
theorem dX5_about_73 : decode cX5_about 73 = .ok (.getfield 35, 3) := by decide +kernel
theorem dX5_about_76 : decode cX5_about 76 = .ok (.getfield 122, 3) := by decide +kernel
theorem dX5_about_79 : decode cX5_about 79 = .ok (.iload_n 1, 1) := by decide +kernel
theorem dX5_about_80 : decode cX5_about 80 = .ok (.invokestatic 115, 3) := by decide +kernel
theorem dX5_about_83 : decode cX5_about 83 = .ok (.ireturn, 1) := by decide +kernel
theorem dX5_about_84 : decode cX5_about 84 = .ok (.aload_n 0, 1) := by decide +kernel
theorem dX5_about_85 : decode cX5_about 85 = .ok (.getfield 35, 3) := by decide +kernel
theorem dX5_about_88 : decode cX5_about 88 = .ok (.iload_n 1, 1) := by decide +kernel
theorem dX5_about_89 : decode cX5_about 89 = .ok (.invokevirtual 125, 3) := by decide +kernel
theorem dX5_about_92 : decode cX5_about 92 = .ok (.ireturn, 1) := by decide +kernel
theorem dX5_about_93 : decode cX5_about 93 = .ok (.aload_n 0, 1) := by decide +kernel
theorem dX5_about_94 : decode cX5_about 94 = .ok (.getfield 35, 3) := by decide +kernel
theorem dX5_about_97 : decode cX5_about 97 = .ok (.iload_n 1, 1) := by decide +kernel
theorem dX5_about_98 : decode cX5_about 98 = .ok (.invokevirtual 128, 3) := by decide +kernel
theorem dX5_about_101 : decode cX5_about 101 = .ok (.ifCond .eq 7, 3) := by decide +kernel
theorem dX5_about_104 : decode cX5_about 104 = .ok (.iconst 1, 1) := by decide +kernel
theorem dX5_about_105 : decode cX5_about 105 = .ok (.goto 4, 3) := by decide +kernel
theorem dX5_about_108 : decode cX5_about 108 = .ok (.iconst 0, 1) := by decide +kernel
theorem dX5_about_109 : decode cX5_about 109 = .ok (.ireturn, 1) := by decide +kernel
theorem dX5_about_110 : decode cX5_about 110 = .ok (.bipush (-102), 2) := by decide +kernel
theorem dX5_about_112 : decode cX5_about 112 = .ok (.ireturn, 1) := by decide +kernel
theorem dX5_step_0 : decode cX5_step 0 = .ok (.aload_n 0, 1) := by decide +kernel
theorem dX5_step_1 : decode cX5_step 1 = .ok (.getfield 35, 3) := by decide +kernel
theorem dX5_step_4 : decode cX5_step 4 = .ok (.iload_n 1, 1) := by decide +kernel
theorem dX5_step_5 : decode cX5_step 5 = .ok (.invokevirtual 110, 3) := by decide +kernel
theorem dX5_step_8 : decode cX5_step 8 = .ok (.ifCond .ne 6, 3) := by decide +kernel
theorem dX5_step_11 : decode cX5_step 11 = .ok (.bipush (-101), 2) := by decide +kernel
theorem dX5_step_13 : decode cX5_step 13 = .ok (.ireturn, 1) := by decide +kernel
theorem dX5_step_14 : decode cX5_step 14 = .ok (.iload_n 2, 1) := by decide +kernel
theorem dX5_step_15 : decode cX5_step 15 = .ok (.invokestatic 131, 3) := by decide +kernel
theorem dX5_step_18 : decode cX5_step 18 = .ok (.ifCond .ne 6, 3) := by decide +kernel
theorem dX5_step_21 : decode cX5_step 21 = .ok (.bipush (-102), 2) := by decide +kernel
theorem dX5_step_23 : decode cX5_step 23 = .ok (.ireturn, 1) := by decide +kernel
theorem dX5_step_24 : decode cX5_step 24 = .ok (.aload_n 0, 1) := by decide +kernel
theorem dX5_step_25 : decode cX5_step 25 = .ok (.getfield 19, 3) := by decide +kernel
theorem dX5_step_28 : decode cX5_step 28 = .ok (.aload_n 0, 1) := by decide +kernel
theorem dX5_step_29 : decode cX5_step 29 = .ok (.getfield 35, 3) := by decide +kernel
theorem dX5_step_32 : decode cX5_step 32 = .ok (.getfield 111, 3) := by decide +kernel
theorem dX5_step_35 : decode cX5_step 35 = .ok (.iload_n 1, 1) := by decide +kernel
theorem dX5_step_36 : decode cX5_step 36 = .ok (.invokestatic 115, 3) := by decide +kernel
theorem dX5_step_39 : decode cX5_step 39 = .ok (.iload_n 2, 1) := by decide +kernel
theorem dX5_step_40 : decode cX5_step 40 = .ok (.invokevirtual 84, 3) := by decide +kernel
theorem dX5_step_43 : decode cX5_step 43 = .ok (.istore_n 3, 1) := by decide +kernel
theorem dX5_step_44 : decode cX5_step 44 = .ok (.aload_n 0, 1) := by decide +kernel
theorem dX5_step_45 : decode cX5_step 45 = .ok (.getfield 19, 3) := by decide +kernel
theorem dX5_step_48 : decode cX5_step 48 = .ok (.iload_n 3, 1) := by decide +kernel
theorem dX5_step_49 : decode cX5_step 49 = .ok (.invokevirtual 91, 3) := by decide +kernel
theorem dX5_step_52 : decode cX5_step 52 = .ok (.istore 4, 2) := by decide +kernel
theorem dX5_step_54 : decode cX5_step 54 = .ok (.aload_n 0, 1) := by decide +kernel
theorem dX5_step_55 : decode cX5_step 55 = .ok (.getfield 35, 3) := by decide +kernel
theorem dX5_step_58 : decode cX5_step 58 = .ok (.getfield 119, 3) := by decide +kernel
theorem dX5_step_61 : decode cX5_step 61 = .ok (.iload_n 1, 1) := by decide +kernel
theorem dX5_step_62 : decode cX5_step 62 = .ok (.invokestatic 115, 3) := by decide +kernel
theorem dX5_step_65 : decode cX5_step 65 = .ok (.iload 4, 2) := by decide +kernel
theorem dX5_step_67 : decode cX5_step 67 = .ok (.if_icmp .ge 6, 3) := by decide +kernel
theorem dX5_step_70 : decode cX5_step 70 = .ok (.bipush (-103), 2) := by decide +kernel
theorem dX5_step_72 : decode cX5_step 72 = .ok (.ireturn, 1) := by decide +kernel
theorem dX5_step_73 : decode cX5_step 73 = .ok (.aload_n 0, 1) := by decide +kernel
theorem dX5_step_74 : decode cX5_step 74 = .ok (.getfield 35, 3) := by decide +kernel
theorem dX5_step_77 : decode cX5_step 77 = .ok (.iload_n 1, 1) := by decide +kernel
theorem dX5_step_78 : decode cX5_step 78 = .ok (.iload_n 3, 1) := by decide +kernel
theorem dX5_step_79 : decode cX5_step 79 = .ok (.iload 4, 2) := by decide +kernel
theorem dX5_step_81 : decode cX5_step 81 = .ok (.invokevirtual 134, 3) := by decide +kernel
theorem dX5_step_84 : decode cX5_step 84 = .ok (.iload_n 3, 1) := by decide +kernel
theorem dX5_step_85 : decode cX5_step 85 = .ok (.ireturn, 1) := by decide +kernel
theorem dX5_speak_0 : decode cX5_speak 0 = .ok (.aload_n 0, 1) := by decide +kernel
theorem dX5_speak_1 : decode cX5_speak 1 = .ok (.getfield 35, 3) := by decide +kernel
theorem dX5_speak_4 : decode cX5_speak 4 = .ok (.iload_n 1, 1) := by decide +kernel
theorem dX5_speak_5 : decode cX5_speak 5 = .ok (.invokevirtual 110, 3) := by decide +kernel
theorem dX5_speak_8 : decode cX5_speak 8 = .ok (.ifCond .ne 6, 3) := by decide +kernel
theorem dX5_speak_11 : decode cX5_speak 11 = .ok (.bipush (-101), 2) := by decide +kernel
theorem dX5_speak_13 : decode cX5_speak 13 = .ok (.ireturn, 1) := by decide +kernel
theorem dX5_speak_14 : decode cX5_speak 14 = .ok (.aload_n 0, 1) := by decide +kernel
theorem dX5_speak_15 : decode cX5_speak 15 = .ok (.getfield 35, 3) := by decide +kernel
theorem dX5_speak_18 : decode cX5_speak 18 = .ok (.getfield 138, 3) := by decide +kernel
theorem dX5_speak_21 : decode cX5_speak 21 = .ok (.iload_n 1, 1) := by decide +kernel
theorem dX5_speak_22 : decode cX5_speak 22 = .ok (.aload_n 0, 1) := by decide +kernel
theorem dX5_speak_23 : decode cX5_speak 23 = .ok (.getfield 35, 3) := by decide +kernel
theorem dX5_speak_26 : decode cX5_speak 26 = .ok (.getfield 122, 3) := by decide +kernel
theorem dX5_speak_29 : decode cX5_speak 29 = .ok (.iload_n 1, 1) := by decide +kernel
theorem dX5_speak_30 : decode cX5_speak 30 = .ok (.invokestatic 115, 3) := by decide +kernel
theorem dX5_speak_33 : decode cX5_speak 33 = .ok (.invokestatic 141, 3) := by decide +kernel
theorem dX5_speak_36 : decode cX5_speak 36 = .ok (.aload_n 0, 1) := by decide +kernel
theorem dX5_speak_37 : decode cX5_speak 37 = .ok (.getfield 19, 3) := by decide +kernel
theorem dX5_speak_40 : decode cX5_speak 40 = .ok (.aload_n 0, 1) := by decide +kernel
theorem dX5_speak_41 : decode cX5_speak 41 = .ok (.getfield 35, 3) := by decide +kernel
theorem dX5_speak_44 : decode cX5_speak 44 = .ok (.getfield 111, 3) := by decide +kernel
theorem dX5_speak_47 : decode cX5_speak 47 = .ok (.iload_n 1, 1) := by decide +kernel
theorem dX5_speak_48 : decode cX5_speak 48 = .ok (.invokestatic 115, 3) := by decide +kernel
theorem dX5_speak_51 : decode cX5_speak 51 = .ok (.invokevirtual 88, 3) := by decide +kernel
theorem dX5_speak_54 : decode cX5_speak 54 = .ok (.ireturn, 1) := by decide +kernel
theorem dX5_look_0 : decode cX5_look 0 = .ok (.aload_n 0, 1) := by decide +kernel
theorem dX5_look_1 : decode cX5_look 1 = .ok (.getfield 35, 3) := by decide +kernel
theorem dX5_look_4 : decode cX5_look 4 = .ok (.iload_n 1, 1) := by decide +kernel
theorem dX5_look_5 : decode cX5_look 5 = .ok (.invokevirtual 110, 3) := by decide +kernel
theorem dX5_look_8 : decode cX5_look 8 = .ok (.ifCond .ne 6, 3) := by decide +kernel
theorem dX5_look_11 : decode cX5_look 11 = .ok (.bipush (-101), 2) := by decide +kernel
theorem dX5_look_13 : decode cX5_look 13 = .ok (.ireturn, 1) := by decide +kernel
theorem dX5_look_14 : decode cX5_look 14 = .ok (.aload_n 0, 1) := by decide +kernel
theorem dX5_look_15 : decode cX5_look 15 = .ok (.getfield 35, 3) := by decide +kernel
theorem dX5_look_18 : decode cX5_look 18 = .ok (.iload_n 1, 1) := by decide +kernel
theorem dX5_look_19 : decode cX5_look 19 = .ok (.invokevirtual 128, 3) := by decide +kernel
theorem dX5_look_22 : decode cX5_look 22 = .ok (.ifCond .ne 6, 3) := by decide +kernel
theorem dX5_look_25 : decode cX5_look 25 = .ok (.bipush (-103), 2) := by decide +kernel
theorem dX5_look_27 : decode cX5_look 27 = .ok (.ireturn, 1) := by decide +kernel
theorem dX5_look_28 : decode cX5_look 28 = .ok (.aload_n 0, 1) := by decide +kernel
theorem dX5_look_29 : decode cX5_look 29 = .ok (.getfield 19, 3) := by decide +kernel
theorem dX5_look_32 : decode cX5_look 32 = .ok (.aload_n 0, 1) := by decide +kernel
theorem dX5_look_33 : decode cX5_look 33 = .ok (.getfield 35, 3) := by decide +kernel
theorem dX5_look_36 : decode cX5_look 36 = .ok (.getfield 111, 3) := by decide +kernel
theorem dX5_look_39 : decode cX5_look 39 = .ok (.iload_n 1, 1) := by decide +kernel
theorem dX5_look_40 : decode cX5_look 40 = .ok (.invokestatic 115, 3) := by decide +kernel
theorem dX5_look_43 : decode cX5_look 43 = .ok (.invokevirtual 80, 3) := by decide +kernel
theorem dX5_look_46 : decode cX5_look 46 = .ok (.ireturn, 1) := by decide +kernel
theorem dX5_fill_0 : decode cX5_fill 0 = .ok (.aload_n 0, 1) := by decide +kernel
theorem dX5_fill_1 : decode cX5_fill 1 = .ok (.getfield 35, 3) := by decide +kernel
theorem dX5_fill_4 : decode cX5_fill 4 = .ok (.iload_n 1, 1) := by decide +kernel
theorem dX5_fill_5 : decode cX5_fill 5 = .ok (.invokevirtual 110, 3) := by decide +kernel
theorem dX5_fill_8 : decode cX5_fill 8 = .ok (.ifCond .ne 6, 3) := by decide +kernel
theorem dX5_fill_11 : decode cX5_fill 11 = .ok (.bipush (-101), 2) := by decide +kernel
theorem dX5_fill_13 : decode cX5_fill 13 = .ok (.ireturn, 1) := by decide +kernel
theorem dX5_fill_14 : decode cX5_fill 14 = .ok (.aload_n 0, 1) := by decide +kernel
theorem dX5_fill_15 : decode cX5_fill 15 = .ok (.getfield 35, 3) := by decide +kernel
theorem dX5_fill_18 : decode cX5_fill 18 = .ok (.getfield 119, 3) := by decide +kernel
theorem dX5_fill_21 : decode cX5_fill 21 = .ok (.iload_n 1, 1) := by decide +kernel
theorem dX5_fill_22 : decode cX5_fill 22 = .ok (.invokestatic 115, 3) := by decide +kernel
theorem dX5_fill_25 : decode cX5_fill 25 = .ok (.istore_n 2, 1) := by decide +kernel
theorem dX5_fill_26 : decode cX5_fill 26 = .ok (.aload_n 0, 1) := by decide +kernel
theorem dX5_fill_27 : decode cX5_fill 27 = .ok (.getfield 35, 3) := by decide +kernel
theorem dX5_fill_30 : decode cX5_fill 30 = .ok (.getfield 119, 3) := by decide +kernel
theorem dX5_fill_33 : decode cX5_fill 33 = .ok (.iload_n 1, 1) := by decide +kernel
theorem dX5_fill_34 : decode cX5_fill 34 = .ok (.aload_n 0, 1) := by decide +kernel
theorem dX5_fill_35 : decode cX5_fill 35 = .ok (.getfield 19, 3) := by decide +kernel
theorem dX5_fill_38 : decode cX5_fill 38 = .ok (.getfield 104, 3) := by decide +kernel
theorem dX5_fill_41 : decode cX5_fill 41 = .ok (.invokestatic 141, 3) := by decide +kernel
theorem dX5_fill_44 : decode cX5_fill 44 = .ok (.iload_n 2, 1) := by decide +kernel
theorem dX5_fill_45 : decode cX5_fill 45 = .ok (.ireturn, 1) := by decide +kernel
theorem dX5_way_0 : decode cX5_way 0 = .ok (.aload_n 0, 1) := by decide +kernel
theorem dX5_way_1 : decode cX5_way 1 = .ok (.getfield 19, 3) := by decide +kernel
theorem dX5_way_4 : decode cX5_way 4 = .ok (.iload_n 1, 1) := by decide +kernel
theorem dX5_way_5 : decode cX5_way 5 = .ok (.invokevirtual 76, 3) := by decide +kernel
theorem dX5_way_8 : decode cX5_way 8 = .ok (.ifCond .eq 14, 3) := by decide +kernel
theorem dX5_way_11 : decode cX5_way 11 = .ok (.aload_n 0, 1) := by decide +kernel
theorem dX5_way_12 : decode cX5_way 12 = .ok (.getfield 19, 3) := by decide +kernel
theorem dX5_way_15 : decode cX5_way 15 = .ok (.iload_n 2, 1) := by decide +kernel
theorem dX5_way_16 : decode cX5_way 16 = .ok (.invokevirtual 76, 3) := by decide +kernel
theorem dX5_way_19 : decode cX5_way 19 = .ok (.ifCond .ne 6, 3) := by decide +kernel
theorem dX5_way_22 : decode cX5_way 22 = .ok (.bipush (-101), 2) := by decide +kernel
theorem dX5_way_24 : decode cX5_way 24 = .ok (.ireturn, 1) := by decide +kernel
theorem dX5_way_25 : decode cX5_way 25 = .ok (.iload_n 3, 1) := by decide +kernel
theorem dX5_way_26 : decode cX5_way 26 = .ok (.tableswitch 68 0 2 #[26, 42, 52], 26) := by decide +kernel
theorem dX5_way_52 : decode cX5_way 52 = .ok (.aload_n 0, 1) := by decide +kernel
theorem dX5_way_53 : decode cX5_way 53 = .ok (.getfield 28, 3) := by decide +kernel
theorem dX5_way_56 : decode cX5_way 56 = .ok (.getfield 145, 3) := by decide +kernel
theorem dX5_way_59 : decode cX5_way 59 = .ok (.iload_n 1, 1) := by decide +kernel
theorem dX5_way_60 : decode cX5_way 60 = .ok (.iload_n 2, 1) := by decide +kernel
theorem dX5_way_61 : decode cX5_way 61 = .ok (.invokevirtual 148, 3) := by decide +kernel
theorem dX5_way_64 : decode cX5_way 64 = .ok (.invokestatic 153, 3) := by decide +kernel
theorem dX5_way_67 : decode cX5_way 67 = .ok (.ireturn, 1) := by decide +kernel
theorem dX5_way_68 : decode cX5_way 68 = .ok (.aload_n 0, 1) := by decide +kernel
theorem dX5_way_69 : decode cX5_way 69 = .ok (.getfield 28, 3) := by decide +kernel
theorem dX5_way_72 : decode cX5_way 72 = .ok (.iload_n 1, 1) := by decide +kernel
theorem dX5_way_73 : decode cX5_way 73 = .ok (.iload_n 2, 1) := by decide +kernel
theorem dX5_way_74 : decode cX5_way 74 = .ok (.invokevirtual 156, 3) := by decide +kernel
theorem dX5_way_77 : decode cX5_way 77 = .ok (.ireturn, 1) := by decide +kernel
theorem dX5_way_78 : decode cX5_way 78 = .ok (.aload_n 0, 1) := by decide +kernel
theorem dX5_way_79 : decode cX5_way 79 = .ok (.getfield 28, 3) := by decide +kernel
theorem dX5_way_82 : decode cX5_way 82 = .ok (.getfield 159, 3) := by decide +kernel
theorem dX5_way_85 : decode cX5_way 85 = .ok (.iload_n 1, 1) := by decide +kernel
theorem dX5_way_86 : decode cX5_way 86 = .ok (.iload_n 2, 1) := by decide +kernel
theorem dX5_way_87 : decode cX5_way 87 = .ok (.invokevirtual 148, 3) := by decide +kernel
theorem dX5_way_90 : decode cX5_way 90 = .ok (.invokestatic 153, 3) := by decide +kernel
theorem dX5_way_93 : decode cX5_way 93 = .ok (.ireturn, 1) := by decide +kernel
theorem dX5_way_94 : decode cX5_way 94 = .ok (.bipush (-102), 2) := by decide +kernel
theorem dX5_way_96 : decode cX5_way 96 = .ok (.ireturn, 1) := by decide +kernel
theorem dX5_round_0 : decode cX5_round 0 = .ok (.aload_n 0, 1) := by decide +kernel
theorem dX5_round_1 : decode cX5_round 1 = .ok (.getfield 19, 3) := by decide +kernel
theorem dX5_round_4 : decode cX5_round 4 = .ok (.iload_n 1, 1) := by decide +kernel
theorem dX5_round_5 : decode cX5_round 5 = .ok (.invokevirtual 76, 3) := by decide +kernel
theorem dX5_round_8 : decode cX5_round 8 = .ok (.ifCond .ne 6, 3) := by decide +kernel
theorem dX5_round_11 : decode cX5_round 11 = .ok (.bipush (-101), 2) := by decide +kernel
theorem dX5_round_13 : decode cX5_round 13 = .ok (.ireturn, 1) := by decide +kernel
theorem dX5_round_14 : decode cX5_round 14 = .ok (.iload_n 2, 1) := by decide +kernel
theorem dX5_round_15 : decode cX5_round 15 = .ok (.lookupswitch 49 #[(0, 25), (1, 40)], 25) := by decide +kernel
theorem dX5_round_40 : decode cX5_round 40 = .ok (.aload_n 0, 1) := by decide +kernel
theorem dX5_round_41 : decode cX5_round 41 = .ok (.getfield 28, 3) := by decide +kernel
theorem dX5_round_44 : decode cX5_round 44 = .ok (.iconst 1, 1) := by decide +kernel
theorem dX5_round_45 : decode cX5_round 45 = .ok (.iload_n 1, 1) := by decide +kernel
theorem dX5_round_46 : decode cX5_round 46 = .ok (.ishl, 1) := by decide +kernel
theorem dX5_round_47 : decode cX5_round 47 = .ok (.iload_n 1, 1) := by decide +kernel
theorem dX5_round_48 : decode cX5_round 48 = .ok (.invokevirtual 161, 3) := by decide +kernel
theorem dX5_round_51 : decode cX5_round 51 = .ok (.invokestatic 153, 3) := by decide +kernel
theorem dX5_round_54 : decode cX5_round 54 = .ok (.ireturn, 1) := by decide +kernel
theorem dX5_round_55 : decode cX5_round 55 = .ok (.aload_n 0, 1) := by decide +kernel
theorem dX5_round_56 : decode cX5_round 56 = .ok (.getfield 28, 3) := by decide +kernel
theorem dX5_round_59 : decode cX5_round 59 = .ok (.iload_n 1, 1) := by decide +kernel
theorem dX5_round_60 : decode cX5_round 60 = .ok (.invokevirtual 164, 3) := by decide +kernel
theorem dX5_round_63 : decode cX5_round 63 = .ok (.ireturn, 1) := by decide +kernel
theorem dX5_round_64 : decode cX5_round 64 = .ok (.bipush (-102), 2) := by decide +kernel
theorem dX5_round_66 : decode cX5_round 66 = .ok (.ireturn, 1) := by decide +kernel
theorem dX5_meet_0 : decode cX5_meet 0 = .ok (.aload_n 0, 1) := by decide +kernel
theorem dX5_meet_1 : decode cX5_meet 1 = .ok (.getfield 35, 3) := by decide +kernel
theorem dX5_meet_4 : decode cX5_meet 4 = .ok (.iload_n 1, 1) := by decide +kernel
theorem dX5_meet_5 : decode cX5_meet 5 = .ok (.invokevirtual 110, 3) := by decide +kernel
theorem dX5_meet_8 : decode cX5_meet 8 = .ok (.ifCond .eq 14, 3) := by decide +kernel
theorem dX5_meet_11 : decode cX5_meet 11 = .ok (.aload_n 0, 1) := by decide +kernel
theorem dX5_meet_12 : decode cX5_meet 12 = .ok (.getfield 35, 3) := by decide +kernel
theorem dX5_meet_15 : decode cX5_meet 15 = .ok (.iload_n 2, 1) := by decide +kernel
theorem dX5_meet_16 : decode cX5_meet 16 = .ok (.invokevirtual 110, 3) := by decide +kernel
theorem dX5_meet_19 : decode cX5_meet 19 = .ok (.ifCond .ne 6, 3) := by decide +kernel
theorem dX5_meet_22 : decode cX5_meet 22 = .ok (.bipush (-101), 2) := by decide +kernel
theorem dX5_meet_24 : decode cX5_meet 24 = .ok (.ireturn, 1) := by decide +kernel
theorem dX5_meet_25 : decode cX5_meet 25 = .ok (.aload_n 0, 1) := by decide +kernel
theorem dX5_meet_26 : decode cX5_meet 26 = .ok (.getfield 28, 3) := by decide +kernel
theorem dX5_meet_29 : decode cX5_meet 29 = .ok (.getfield 167, 3) := by decide +kernel
theorem dX5_meet_32 : decode cX5_meet 32 = .ok (.aload_n 0, 1) := by decide +kernel
theorem dX5_meet_33 : decode cX5_meet 33 = .ok (.getfield 35, 3) := by decide +kernel
theorem dX5_meet_36 : decode cX5_meet 36 = .ok (.getfield 111, 3) := by decide +kernel
theorem dX5_meet_39 : decode cX5_meet 39 = .ok (.iload_n 1, 1) := by decide +kernel
theorem dX5_meet_40 : decode cX5_meet 40 = .ok (.invokestatic 115, 3) := by decide +kernel
theorem dX5_meet_43 : decode cX5_meet 43 = .ok (.aload_n 0, 1) := by decide +kernel
theorem dX5_meet_44 : decode cX5_meet 44 = .ok (.getfield 35, 3) := by decide +kernel
theorem dX5_meet_47 : decode cX5_meet 47 = .ok (.getfield 111, 3) := by decide +kernel
theorem dX5_meet_50 : decode cX5_meet 50 = .ok (.iload_n 2, 1) := by decide +kernel
theorem dX5_meet_51 : decode cX5_meet 51 = .ok (.invokestatic 115, 3) := by decide +kernel
theorem dX5_meet_54 : decode cX5_meet 54 = .ok (.invokevirtual 148, 3) := by decide +kernel
theorem dX5_meet_57 : decode cX5_meet 57 = .ok (.invokestatic 153, 3) := by decide +kernel
theorem dX5_meet_60 : decode cX5_meet 60 = .ok (.ireturn, 1) := by decide +kernel
theorem dX5_apart_0 : decode cX5_apart 0 = .ok (.aload_n 0, 1) := by decide +kernel
theorem dX5_apart_1 : decode cX5_apart 1 = .ok (.getfield 19, 3) := by decide +kernel
theorem dX5_apart_4 : decode cX5_apart 4 = .ok (.iload_n 1, 1) := by decide +kernel
theorem dX5_apart_5 : decode cX5_apart 5 = .ok (.invokevirtual 76, 3) := by decide +kernel
theorem dX5_apart_8 : decode cX5_apart 8 = .ok (.ifCond .eq 14, 3) := by decide +kernel
theorem dX5_apart_11 : decode cX5_apart 11 = .ok (.aload_n 0, 1) := by decide +kernel
theorem dX5_apart_12 : decode cX5_apart 12 = .ok (.getfield 19, 3) := by decide +kernel
theorem dX5_apart_15 : decode cX5_apart 15 = .ok (.iload_n 2, 1) := by decide +kernel
theorem dX5_apart_16 : decode cX5_apart 16 = .ok (.invokevirtual 76, 3) := by decide +kernel
theorem dX5_apart_19 : decode cX5_apart 19 = .ok (.ifCond .ne 6, 3) := by decide +kernel
theorem dX5_apart_22 : decode cX5_apart 22 = .ok (.bipush (-101), 2) := by decide +kernel
theorem dX5_apart_24 : decode cX5_apart 24 = .ok (.ireturn, 1) := by decide +kernel
theorem dX5_apart_25 : decode cX5_apart 25 = .ok (.iload_n 3, 1) := by decide +kernel
theorem dX5_apart_26 : decode cX5_apart 26 = .ok (.lookupswitch 52 #[(0, 26), (1, 42)], 26) := by decide +kernel
theorem dX5_apart_52 : decode cX5_apart 52 = .ok (.aload_n 0, 1) := by decide +kernel
theorem dX5_apart_53 : decode cX5_apart 53 = .ok (.getfield 28, 3) := by decide +kernel
theorem dX5_apart_56 : decode cX5_apart 56 = .ok (.getfield 170, 3) := by decide +kernel
theorem dX5_apart_59 : decode cX5_apart 59 = .ok (.iload_n 1, 1) := by decide +kernel
theorem dX5_apart_60 : decode cX5_apart 60 = .ok (.iload_n 2, 1) := by decide +kernel
theorem dX5_apart_61 : decode cX5_apart 61 = .ok (.invokevirtual 148, 3) := by decide +kernel
theorem dX5_apart_64 : decode cX5_apart 64 = .ok (.invokestatic 153, 3) := by decide +kernel
theorem dX5_apart_67 : decode cX5_apart 67 = .ok (.ireturn, 1) := by decide +kernel
theorem dX5_apart_68 : decode cX5_apart 68 = .ok (.aload_n 0, 1) := by decide +kernel
theorem dX5_apart_69 : decode cX5_apart 69 = .ok (.getfield 28, 3) := by decide +kernel
theorem dX5_apart_72 : decode cX5_apart 72 = .ok (.iload_n 1, 1) := by decide +kernel
theorem dX5_apart_73 : decode cX5_apart 73 = .ok (.iload_n 2, 1) := by decide +kernel
theorem dX5_apart_74 : decode cX5_apart 74 = .ok (.invokevirtual 173, 3) := by decide +kernel
theorem dX5_apart_77 : decode cX5_apart 77 = .ok (.ireturn, 1) := by decide +kernel
theorem dX5_apart_78 : decode cX5_apart 78 = .ok (.bipush (-102), 2) := by decide +kernel
theorem dX5_apart_80 : decode cX5_apart 80 = .ok (.ireturn, 1) := by decide +kernel
theorem dX5_hear_0 : decode cX5_hear 0 = .ok (.aload_n 0, 1) := by decide +kernel
theorem dX5_hear_1 : decode cX5_hear 1 = .ok (.getfield 35, 3) := by decide +kernel
theorem dX5_hear_4 : decode cX5_hear 4 = .ok (.getfield 176, 3) := by decide +kernel
theorem dX5_hear_7 : decode cX5_hear 7 = .ok (.ifCond .ne 16, 3) := by decide +kernel
theorem dX5_hear_10 : decode cX5_hear 10 = .ok (.iload_n 1, 1) := by decide +kernel
theorem dX5_hear_11 : decode cX5_hear 11 = .ok (.iconst (-1), 1) := by decide +kernel
theorem dX5_hear_12 : decode cX5_hear 12 = .ok (.if_icmp .ne 7, 3) := by decide +kernel
theorem dX5_hear_15 : decode cX5_hear 15 = .ok (.iconst 1, 1) := by decide +kernel
theorem dX5_hear_16 : decode cX5_hear 16 = .ok (.goto 11, 3) := by decide +kernel
theorem dX5_hear_19 : decode cX5_hear 19 = .ok (.iconst 0, 1) := by decide +kernel
theorem dX5_hear_20 : decode cX5_hear 20 = .ok (.goto 7, 3) := by decide +kernel
theorem dX5_hear_23 : decode cX5_hear 23 = .ok (.iload_n 1, 1) := by decide +kernel
theorem dX5_hear_24 : decode cX5_hear 24 = .ok (.invokestatic 131, 3) := by decide +kernel
theorem dX5_hear_27 : decode cX5_hear 27 = .ok (.istore_n 3, 1) := by decide +kernel
theorem dX5_hear_28 : decode cX5_hear 28 = .ok (.iload_n 3, 1) := by decide +kernel
theorem dX5_hear_29 : decode cX5_hear 29 = .ok (.ifCond .eq 12, 3) := by decide +kernel
theorem dX5_hear_32 : decode cX5_hear 32 = .ok (.iload_n 2, 1) := by decide +kernel
theorem dX5_hear_33 : decode cX5_hear 33 = .ok (.ifCond .lt 8, 3) := by decide +kernel
theorem dX5_hear_36 : decode cX5_hear 36 = .ok (.iload_n 2, 1) := by decide +kernel
theorem dX5_hear_37 : decode cX5_hear 37 = .ok (.iconst 3, 1) := by decide +kernel
theorem dX5_hear_38 : decode cX5_hear 38 = .ok (.if_icmp .lt 6, 3) := by decide +kernel
theorem dX5_hear_41 : decode cX5_hear 41 = .ok (.bipush (-102), 2) := by decide +kernel
theorem dX5_hear_43 : decode cX5_hear 43 = .ok (.ireturn, 1) := by decide +kernel
theorem dX5_hear_44 : decode cX5_hear 44 = .ok (.aload_n 0, 1) := by decide +kernel
theorem dX5_hear_45 : decode cX5_hear 45 = .ok (.getfield 35, 3) := by decide +kernel
theorem dX5_hear_48 : decode cX5_hear 48 = .ok (.getfield 176, 3) := by decide +kernel
theorem dX5_hear_51 : decode cX5_hear 51 = .ok (.bipush 8, 2) := by decide +kernel
theorem dX5_hear_53 : decode cX5_hear 53 = .ok (.if_icmp .lt 6, 3) := by decide +kernel
theorem dX5_hear_56 : decode cX5_hear 56 = .ok (.bipush (-104), 2) := by decide +kernel
theorem dX5_hear_58 : decode cX5_hear 58 = .ok (.ireturn, 1) := by decide +kernel
theorem dX5_hear_59 : decode cX5_hear 59 = .ok (.aload_n 0, 1) := by decide +kernel
theorem dX5_hear_60 : decode cX5_hear 60 = .ok (.getfield 35, 3) := by decide +kernel
theorem dX5_hear_63 : decode cX5_hear 63 = .ok (.iload_n 1, 1) := by decide +kernel
theorem dX5_hear_64 : decode cX5_hear 64 = .ok (.iload_n 2, 1) := by decide +kernel
theorem dX5_hear_65 : decode cX5_hear 65 = .ok (.invokevirtual 179, 3) := by decide +kernel
theorem dX5_hear_68 : decode cX5_hear 68 = .ok (.aload_n 0, 1) := by decide +kernel
theorem dX5_hear_69 : decode cX5_hear 69 = .ok (.getfield 35, 3) := by decide +kernel
theorem dX5_hear_72 : decode cX5_hear 72 = .ok (.getfield 176, 3) := by decide +kernel
theorem dX5_hear_75 : decode cX5_hear 75 = .ok (.ireturn, 1) := by decide +kernel
theorem dX5_forget_0 : decode cX5_forget 0 = .ok (.aload_n 0, 1) := by decide +kernel
theorem dX5_forget_1 : decode cX5_forget 1 = .ok (.getfield 35, 3) := by decide +kernel
theorem dX5_forget_4 : decode cX5_forget 4 = .ok (.getfield 176, 3) := by decide +kernel
theorem dX5_forget_7 : decode cX5_forget 7 = .ok (.istore_n 1, 1) := by decide +kernel
theorem dX5_forget_8 : decode cX5_forget 8 = .ok (.aload_n 0, 1) := by decide +kernel
theorem dX5_forget_9 : decode cX5_forget 9 = .ok (.getfield 35, 3) := by decide +kernel
theorem dX5_forget_12 : decode cX5_forget 12 = .ok (.iconst 0, 1) := by decide +kernel
theorem dX5_forget_13 : decode cX5_forget 13 = .ok (.putfield 176, 3) := by decide +kernel
theorem dX5_forget_16 : decode cX5_forget 16 = .ok (.iload_n 1, 1) := by decide +kernel
theorem dX5_forget_17 : decode cX5_forget 17 = .ok (.ireturn, 1) := by decide +kernel
theorem dX5_where_0 : decode cX5_where 0 = .ok (.aload_n 0, 1) := by decide +kernel
theorem dX5_where_1 : decode cX5_where 1 = .ok (.getfield 19, 3) := by decide +kernel
theorem dX5_where_4 : decode cX5_where 4 = .ok (.invokevirtual 183, 3) := by decide +kernel
theorem dX5_where_7 : decode cX5_where 7 = .ok (.ifCond .ne 6, 3) := by decide +kernel
theorem dX5_where_10 : decode cX5_where 10 = .ok (.bipush (-103), 2) := by decide +kernel
theorem dX5_where_12 : decode cX5_where 12 = .ok (.ireturn, 1) := by decide +kernel
theorem dX5_where_13 : decode cX5_where 13 = .ok (.aload_n 0, 1) := by decide +kernel
theorem dX5_where_14 : decode cX5_where 14 = .ok (.getfield 19, 3) := by decide +kernel
theorem dX5_where_17 : decode cX5_where 17 = .ok (.aload_n 0, 1) := by decide +kernel
theorem dX5_where_18 : decode cX5_where 18 = .ok (.getfield 35, 3) := by decide +kernel
theorem dX5_where_21 : decode cX5_where 21 = .ok (.invokevirtual 186, 3) := by decide +kernel
theorem dX5_where_24 : decode cX5_where 24 = .ok (.ireturn, 1) := by decide +kernel
theorem dX5_next_0 : decode cX5_next 0 = .ok (.aload_n 0, 1) := by decide +kernel
theorem dX5_next_1 : decode cX5_next 1 = .ok (.getfield 19, 3) := by decide +kernel
theorem dX5_next_4 : decode cX5_next 4 = .ok (.invokevirtual 183, 3) := by decide +kernel
theorem dX5_next_7 : decode cX5_next 7 = .ok (.ifCond .ne 6, 3) := by decide +kernel
theorem dX5_next_10 : decode cX5_next 10 = .ok (.bipush (-103), 2) := by decide +kernel
theorem dX5_next_12 : decode cX5_next 12 = .ok (.ireturn, 1) := by decide +kernel
theorem dX5_next_13 : decode cX5_next 13 = .ok (.aload_n 0, 1) := by decide +kernel
theorem dX5_next_14 : decode cX5_next 14 = .ok (.getfield 19, 3) := by decide +kernel
theorem dX5_next_17 : decode cX5_next 17 = .ok (.aload_n 0, 1) := by decide +kernel
theorem dX5_next_18 : decode cX5_next 18 = .ok (.getfield 35, 3) := by decide +kernel
theorem dX5_next_21 : decode cX5_next 21 = .ok (.invokevirtual 186, 3) := by decide +kernel
theorem dX5_next_24 : decode cX5_next 24 = .ok (.istore_n 1, 1) := by decide +kernel
theorem dX5_next_25 : decode cX5_next 25 = .ok (.iload_n 1, 1) := by decide +kernel
theorem dX5_next_26 : decode cX5_next 26 = .ok (.ifCond .ne 5, 3) := by decide +kernel
theorem dX5_next_29 : decode cX5_next 29 = .ok (.iconst (-1), 1) := by decide +kernel
theorem dX5_next_30 : decode cX5_next 30 = .ok (.ireturn, 1) := by decide +kernel
theorem dX5_next_31 : decode cX5_next 31 = .ok (.aload_n 0, 1) := by decide +kernel
theorem dX5_next_32 : decode cX5_next 32 = .ok (.getfield 19, 3) := by decide +kernel
theorem dX5_next_35 : decode cX5_next 35 = .ok (.iload_n 1, 1) := by decide +kernel
theorem dX5_next_36 : decode cX5_next 36 = .ok (.iconst 1, 1) := by decide +kernel
theorem dX5_next_37 : decode cX5_next 37 = .ok (.invokevirtual 190, 3) := by decide +kernel
theorem dX5_next_40 : decode cX5_next 40 = .ok (.aload_n 0, 1) := by decide +kernel
theorem dX5_next_41 : decode cX5_next 41 = .ok (.getfield 19, 3) := by decide +kernel
theorem dX5_next_44 : decode cX5_next 44 = .ok (.iload_n 1, 1) := by decide +kernel
theorem dX5_next_45 : decode cX5_next 45 = .ok (.iconst 0, 1) := by decide +kernel
theorem dX5_next_46 : decode cX5_next 46 = .ok (.invokevirtual 190, 3) := by decide +kernel
theorem dX5_next_49 : decode cX5_next 49 = .ok (.if_icmp .ge 7, 3) := by decide +kernel
theorem dX5_next_52 : decode cX5_next 52 = .ok (.iconst 1, 1) := by decide +kernel
theorem dX5_next_53 : decode cX5_next 53 = .ok (.goto 4, 3) := by decide +kernel
theorem dX5_next_56 : decode cX5_next 56 = .ok (.iconst 0, 1) := by decide +kernel
theorem dX5_next_57 : decode cX5_next 57 = .ok (.ireturn, 1) := by decide +kernel
theorem dX5_walks_0 : decode cX5_walks 0 = .ok (.aload_n 0, 1) := by decide +kernel
theorem dX5_walks_1 : decode cX5_walks 1 = .ok (.getfield 19, 3) := by decide +kernel
theorem dX5_walks_4 : decode cX5_walks 4 = .ok (.iload_n 1, 1) := by decide +kernel
theorem dX5_walks_5 : decode cX5_walks 5 = .ok (.invokevirtual 76, 3) := by decide +kernel
theorem dX5_walks_8 : decode cX5_walks 8 = .ok (.ifCond .ne 6, 3) := by decide +kernel
theorem dX5_walks_11 : decode cX5_walks 11 = .ok (.bipush (-101), 2) := by decide +kernel
theorem dX5_walks_13 : decode cX5_walks 13 = .ok (.ireturn, 1) := by decide +kernel
theorem dX5_walks_14 : decode cX5_walks 14 = .ok (.iload_n 2, 1) := by decide +kernel
theorem dX5_walks_15 : decode cX5_walks 15 = .ok (.iconst 1, 1) := by decide +kernel
theorem dX5_walks_16 : decode cX5_walks 16 = .ok (.if_icmp .lt 13, 3) := by decide +kernel
theorem dX5_walks_19 : decode cX5_walks 19 = .ok (.iload_n 2, 1) := by decide +kernel
theorem dX5_walks_20 : decode cX5_walks 20 = .ok (.bipush 60, 2) := by decide +kernel
theorem dX5_walks_22 : decode cX5_walks 22 = .ok (.if_icmp .gt 7, 3) := by decide +kernel
theorem dX5_walks_25 : decode cX5_walks 25 = .ok (.iload_n 3, 1) := by decide +kernel
theorem dX5_walks_26 : decode cX5_walks 26 = .ok (.ifCond .ge 6, 3) := by decide +kernel
theorem dX5_walks_29 : decode cX5_walks 29 = .ok (.bipush (-102), 2) := by decide +kernel
theorem dX5_walks_31 : decode cX5_walks 31 = .ok (.ireturn, 1) := by decide +kernel
theorem dX5_walks_32 : decode cX5_walks 32 = .ok (.iload_n 1, 1) := by decide +kernel
theorem dX5_walks_33 : decode cX5_walks 33 = .ok (.istore 5, 2) := by decide +kernel
theorem dX5_walks_35 : decode cX5_walks 35 = .ok (.iconst 1, 1) := by decide +kernel
theorem dX5_walks_36 : decode cX5_walks 36 = .ok (.iload_n 1, 1) := by decide +kernel
theorem dX5_walks_37 : decode cX5_walks 37 = .ok (.ishl, 1) := by decide +kernel
theorem dX5_walks_38 : decode cX5_walks 38 = .ok (.istore 6, 2) := by decide +kernel
theorem dX5_walks_40 : decode cX5_walks 40 = .ok (.iconst 0, 1) := by decide +kernel
theorem dX5_walks_41 : decode cX5_walks 41 = .ok (.istore 7, 2) := by decide +kernel
theorem dX5_walks_43 : decode cX5_walks 43 = .ok (.iload_n 3, 1) := by decide +kernel
theorem dX5_walks_44 : decode cX5_walks 44 = .ok (.istore 8, 2) := by decide +kernel
theorem dX5_walks_46 : decode cX5_walks 46 = .ok (.iconst 0, 1) := by decide +kernel
theorem dX5_walks_47 : decode cX5_walks 47 = .ok (.istore 9, 2) := by decide +kernel
theorem dX5_walks_49 : decode cX5_walks 49 = .ok (.iload 9, 2) := by decide +kernel
theorem dX5_walks_51 : decode cX5_walks 51 = .ok (.iload_n 2, 1) := by decide +kernel
theorem dX5_walks_52 : decode cX5_walks 52 = .ok (.if_icmp .ge 55, 3) := by decide +kernel
theorem dX5_walks_55 : decode cX5_walks 55 = .ok (.iload 8, 2) := by decide +kernel
theorem dX5_walks_57 : decode cX5_walks 57 = .ok (.invokestatic 193, 3) := by decide +kernel
theorem dX5_walks_60 : decode cX5_walks 60 = .ok (.istore 8, 2) := by decide +kernel
theorem dX5_walks_62 : decode cX5_walks 62 = .ok (.aload_n 0, 1) := by decide +kernel
theorem dX5_walks_63 : decode cX5_walks 63 = .ok (.getfield 19, 3) := by decide +kernel
theorem dX5_walks_66 : decode cX5_walks 66 = .ok (.iload 5, 2) := by decide +kernel
theorem dX5_walks_68 : decode cX5_walks 68 = .ok (.iload 8, 2) := by decide +kernel
theorem dX5_walks_70 : decode cX5_walks 70 = .ok (.invokestatic 196, 3) := by decide +kernel
theorem dX5_walks_73 : decode cX5_walks 73 = .ok (.invokevirtual 84, 3) := by decide +kernel
theorem dX5_walks_76 : decode cX5_walks 76 = .ok (.istore 5, 2) := by decide +kernel
theorem dX5_walks_78 : decode cX5_walks 78 = .ok (.iload 6, 2) := by decide +kernel
theorem dX5_walks_80 : decode cX5_walks 80 = .ok (.iconst 1, 1) := by decide +kernel
theorem dX5_walks_81 : decode cX5_walks 81 = .ok (.iload 5, 2) := by decide +kernel
theorem dX5_walks_83 : decode cX5_walks 83 = .ok (.ishl, 1) := by decide +kernel
theorem dX5_walks_84 : decode cX5_walks 84 = .ok (.ior, 1) := by decide +kernel
theorem dX5_walks_85 : decode cX5_walks 85 = .ok (.istore 6, 2) := by decide +kernel
theorem dX5_walks_87 : decode cX5_walks 87 = .ok (.iload 7, 2) := by decide +kernel
theorem dX5_walks_89 : decode cX5_walks 89 = .ok (.aload_n 0, 1) := by decide +kernel
theorem dX5_walks_90 : decode cX5_walks 90 = .ok (.getfield 19, 3) := by decide +kernel
theorem dX5_walks_93 : decode cX5_walks 93 = .ok (.iload 5, 2) := by decide +kernel
theorem dX5_walks_95 : decode cX5_walks 95 = .ok (.invokevirtual 88, 3) := by decide +kernel
theorem dX5_walks_98 : decode cX5_walks 98 = .ok (.iadd, 1) := by decide +kernel
theorem dX5_walks_99 : decode cX5_walks 99 = .ok (.istore 7, 2) := by decide +kernel
theorem dX5_walks_101 : decode cX5_walks 101 = .ok (.iinc 9 1, 3) := by decide +kernel
theorem dX5_walks_104 : decode cX5_walks 104 = .ok (.goto (-55), 3) := by decide +kernel
theorem dX5_walks_107 : decode cX5_walks 107 = .ok (.iload 4, 2) := by decide +kernel
theorem dX5_walks_109 : decode cX5_walks 109 = .ok (.tableswitch 46 0 3 #[31, 37, 40, 43], 31) := by decide +kernel
theorem dX5_walks_140 : decode cX5_walks 140 = .ok (.iload 6, 2) := by decide +kernel
theorem dX5_walks_142 : decode cX5_walks 142 = .ok (.invokestatic 199, 3) := by decide +kernel
theorem dX5_walks_145 : decode cX5_walks 145 = .ok (.ireturn, 1) := by decide +kernel
theorem dX5_walks_146 : decode cX5_walks 146 = .ok (.iload 5, 2) := by decide +kernel
theorem dX5_walks_148 : decode cX5_walks 148 = .ok (.ireturn, 1) := by decide +kernel
theorem dX5_walks_149 : decode cX5_walks 149 = .ok (.iload 7, 2) := by decide +kernel
theorem dX5_walks_151 : decode cX5_walks 151 = .ok (.ireturn, 1) := by decide +kernel
theorem dX5_walks_152 : decode cX5_walks 152 = .ok (.iload 8, 2) := by decide +kernel
theorem dX5_walks_154 : decode cX5_walks 154 = .ok (.ireturn, 1) := by decide +kernel
theorem dX5_walks_155 : decode cX5_walks 155 = .ok (.bipush (-102), 2) := by decide +kernel
theorem dX5_walks_157 : decode cX5_walks 157 = .ok (.ireturn, 1) := by decide +kernel
theorem dX5_image_0 : decode cX5_image 0 = .ok (.aload_n 0, 1) := by decide +kernel
theorem dX5_image_1 : decode cX5_image 1 = .ok (.getfield 19, 3) := by decide +kernel
theorem dX5_image_4 : decode cX5_image 4 = .ok (.invokevirtual 183, 3) := by decide +kernel
theorem dX5_image_7 : decode cX5_image 7 = .ok (.ifCond .ne 6, 3) := by decide +kernel
theorem dX5_image_10 : decode cX5_image 10 = .ok (.bipush (-103), 2) := by decide +kernel
theorem dX5_image_12 : decode cX5_image 12 = .ok (.ireturn, 1) := by decide +kernel
theorem dX5_image_13 : decode cX5_image 13 = .ok (.aload_n 0, 1) := by decide +kernel
theorem dX5_image_14 : decode cX5_image 14 = .ok (.getfield 39, 3) := by decide +kernel
theorem dX5_image_17 : decode cX5_image 17 = .ok (.aload_n 0, 1) := by decide +kernel
theorem dX5_image_18 : decode cX5_image 18 = .ok (.getfield 35, 3) := by decide +kernel
theorem dX5_image_21 : decode cX5_image 21 = .ok (.invokevirtual 204, 3) := by decide +kernel
theorem dX5_image_24 : decode cX5_image 24 = .ok (.aload_n 0, 1) := by decide +kernel
theorem dX5_image_25 : decode cX5_image 25 = .ok (.iconst 1, 1) := by decide +kernel
theorem dX5_image_26 : decode cX5_image 26 = .ok (.putfield 68, 3) := by decide +kernel
theorem dX5_image_29 : decode cX5_image 29 = .ok (.aload_n 0, 1) := by decide +kernel
theorem dX5_image_30 : decode cX5_image 30 = .ok (.getfield 39, 3) := by decide +kernel
theorem dX5_image_33 : decode cX5_image 33 = .ok (.getfield 101, 3) := by decide +kernel
theorem dX5_image_36 : decode cX5_image 36 = .ok (.ireturn, 1) := by decide +kernel
theorem dX5_restore_0 : decode cX5_restore 0 = .ok (.aload_n 0, 1) := by decide +kernel
theorem dX5_restore_1 : decode cX5_restore 1 = .ok (.getfield 68, 3) := by decide +kernel
theorem dX5_restore_4 : decode cX5_restore 4 = .ok (.ifCond .ne 6, 3) := by decide +kernel
theorem dX5_restore_7 : decode cX5_restore 7 = .ok (.bipush (-103), 2) := by decide +kernel
theorem dX5_restore_9 : decode cX5_restore 9 = .ok (.ireturn, 1) := by decide +kernel
theorem dX5_restore_10 : decode cX5_restore 10 = .ok (.aload_n 0, 1) := by decide +kernel
theorem dX5_restore_11 : decode cX5_restore 11 = .ok (.getfield 35, 3) := by decide +kernel
theorem dX5_restore_14 : decode cX5_restore 14 = .ok (.aload_n 0, 1) := by decide +kernel
theorem dX5_restore_15 : decode cX5_restore 15 = .ok (.getfield 39, 3) := by decide +kernel
theorem dX5_restore_18 : decode cX5_restore 18 = .ok (.invokevirtual 204, 3) := by decide +kernel
theorem dX5_restore_21 : decode cX5_restore 21 = .ok (.aload_n 0, 1) := by decide +kernel
theorem dX5_restore_22 : decode cX5_restore 22 = .ok (.getfield 35, 3) := by decide +kernel
theorem dX5_restore_25 : decode cX5_restore 25 = .ok (.getfield 101, 3) := by decide +kernel
theorem dX5_restore_28 : decode cX5_restore 28 = .ok (.ireturn, 1) := by decide +kernel
theorem dX5_count_0 : decode cX5_count 0 = .ok (.iload_n 1, 1) := by decide +kernel
theorem dX5_count_1 : decode cX5_count 1 = .ok (.tableswitch 134 0 8 #[51, 59, 67, 75, 90, 105, 113, 121, 129], 51) := by decide +kernel
theorem dX5_count_52 : decode cX5_count 52 = .ok (.aload_n 0, 1) := by decide +kernel
theorem dX5_count_53 : decode cX5_count 53 = .ok (.getfield 19, 3) := by decide +kernel
theorem dX5_count_56 : decode cX5_count 56 = .ok (.getfield 75, 3) := by decide +kernel
theorem dX5_count_59 : decode cX5_count 59 = .ok (.ireturn, 1) := by decide +kernel
theorem dX5_count_60 : decode cX5_count 60 = .ok (.aload_n 0, 1) := by decide +kernel
theorem dX5_count_61 : decode cX5_count 61 = .ok (.getfield 19, 3) := by decide +kernel
theorem dX5_count_64 : decode cX5_count 64 = .ok (.getfield 104, 3) := by decide +kernel
theorem dX5_count_67 : decode cX5_count 67 = .ok (.ireturn, 1) := by decide +kernel
theorem dX5_count_68 : decode cX5_count 68 = .ok (.aload_n 0, 1) := by decide +kernel
theorem dX5_count_69 : decode cX5_count 69 = .ok (.getfield 35, 3) := by decide +kernel
theorem dX5_count_72 : decode cX5_count 72 = .ok (.getfield 101, 3) := by decide +kernel
theorem dX5_count_75 : decode cX5_count 75 = .ok (.ireturn, 1) := by decide +kernel
theorem dX5_count_76 : decode cX5_count 76 = .ok (.aload_n 0, 1) := by decide +kernel
theorem dX5_count_77 : decode cX5_count 77 = .ok (.getfield 35, 3) := by decide +kernel
theorem dX5_count_80 : decode cX5_count 80 = .ok (.aload_n 0, 1) := by decide +kernel
theorem dX5_count_81 : decode cX5_count 81 = .ok (.getfield 35, 3) := by decide +kernel
theorem dX5_count_84 : decode cX5_count 84 = .ok (.getfield 119, 3) := by decide +kernel
theorem dX5_count_87 : decode cX5_count 87 = .ok (.invokevirtual 208, 3) := by decide +kernel
theorem dX5_count_90 : decode cX5_count 90 = .ok (.ireturn, 1) := by decide +kernel
theorem dX5_count_91 : decode cX5_count 91 = .ok (.aload_n 0, 1) := by decide +kernel
theorem dX5_count_92 : decode cX5_count 92 = .ok (.getfield 35, 3) := by decide +kernel
theorem dX5_count_95 : decode cX5_count 95 = .ok (.aload_n 0, 1) := by decide +kernel
theorem dX5_count_96 : decode cX5_count 96 = .ok (.getfield 35, 3) := by decide +kernel
theorem dX5_count_99 : decode cX5_count 99 = .ok (.getfield 122, 3) := by decide +kernel
theorem dX5_count_102 : decode cX5_count 102 = .ok (.invokevirtual 208, 3) := by decide +kernel
theorem dX5_count_105 : decode cX5_count 105 = .ok (.ireturn, 1) := by decide +kernel
theorem dX5_count_106 : decode cX5_count 106 = .ok (.aload_n 0, 1) := by decide +kernel
theorem dX5_count_107 : decode cX5_count 107 = .ok (.getfield 35, 3) := by decide +kernel
theorem dX5_count_110 : decode cX5_count 110 = .ok (.invokevirtual 212, 3) := by decide +kernel
theorem dX5_count_113 : decode cX5_count 113 = .ok (.ireturn, 1) := by decide +kernel
theorem dX5_count_114 : decode cX5_count 114 = .ok (.aload_n 0, 1) := by decide +kernel
theorem dX5_count_115 : decode cX5_count 115 = .ok (.getfield 35, 3) := by decide +kernel
theorem dX5_count_118 : decode cX5_count 118 = .ok (.getfield 176, 3) := by decide +kernel
theorem dX5_count_121 : decode cX5_count 121 = .ok (.ireturn, 1) := by decide +kernel
theorem dX5_count_122 : decode cX5_count 122 = .ok (.aload_n 0, 1) := by decide +kernel
theorem dX5_count_123 : decode cX5_count 123 = .ok (.getfield 12, 3) := by decide +kernel
theorem dX5_count_126 : decode cX5_count 126 = .ok (.getfield 42, 3) := by decide +kernel
theorem dX5_count_129 : decode cX5_count 129 = .ok (.ireturn, 1) := by decide +kernel
theorem dX5_count_130 : decode cX5_count 130 = .ok (.aload_n 0, 1) := by decide +kernel
theorem dX5_count_131 : decode cX5_count 131 = .ok (.getfield 72, 3) := by decide +kernel
theorem dX5_count_134 : decode cX5_count 134 = .ok (.ireturn, 1) := by decide +kernel
theorem dX5_count_135 : decode cX5_count 135 = .ok (.bipush (-102), 2) := by decide +kernel
theorem dX5_count_137 : decode cX5_count 137 = .ok (.ireturn, 1) := by decide +kernel
theorem dX5_digest_0 : decode cX5_digest 0 = .ok (.ldc2_w 215, 3) := by decide +kernel
theorem dX5_digest_3 : decode cX5_digest 3 = .ok (.lstore_n 1, 1) := by decide +kernel
theorem dX5_digest_4 : decode cX5_digest 4 = .ok (.iconst 0, 1) := by decide +kernel
theorem dX5_digest_5 : decode cX5_digest 5 = .ok (.istore_n 3, 1) := by decide +kernel
theorem dX5_digest_6 : decode cX5_digest 6 = .ok (.iload_n 3, 1) := by decide +kernel
theorem dX5_digest_7 : decode cX5_digest 7 = .ok (.aload_n 0, 1) := by decide +kernel
theorem dX5_digest_8 : decode cX5_digest 8 = .ok (.getfield 19, 3) := by decide +kernel
theorem dX5_digest_11 : decode cX5_digest 11 = .ok (.getfield 75, 3) := by decide +kernel
theorem dX5_digest_14 : decode cX5_digest 14 = .ok (.if_icmp .ge 16, 3) := by decide +kernel
theorem dX5_digest_17 : decode cX5_digest 17 = .ok (.aload_n 0, 1) := by decide +kernel
theorem dX5_digest_18 : decode cX5_digest 18 = .ok (.lload_n 1, 1) := by decide +kernel
theorem dX5_digest_19 : decode cX5_digest 19 = .ok (.iload_n 3, 1) := by decide +kernel
theorem dX5_digest_20 : decode cX5_digest 20 = .ok (.invokevirtual 217, 3) := by decide +kernel
theorem dX5_digest_23 : decode cX5_digest 23 = .ok (.lstore_n 1, 1) := by decide +kernel
theorem dX5_digest_24 : decode cX5_digest 24 = .ok (.iinc 3 1, 3) := by decide +kernel
theorem dX5_digest_27 : decode cX5_digest 27 = .ok (.goto (-21), 3) := by decide +kernel
theorem dX5_digest_30 : decode cX5_digest 30 = .ok (.iconst 0, 1) := by decide +kernel
theorem dX5_digest_31 : decode cX5_digest 31 = .ok (.istore_n 3, 1) := by decide +kernel
theorem dX5_digest_32 : decode cX5_digest 32 = .ok (.iload_n 3, 1) := by decide +kernel
theorem dX5_digest_33 : decode cX5_digest 33 = .ok (.aload_n 0, 1) := by decide +kernel
theorem dX5_digest_34 : decode cX5_digest 34 = .ok (.getfield 35, 3) := by decide +kernel
theorem dX5_digest_37 : decode cX5_digest 37 = .ok (.getfield 101, 3) := by decide +kernel
theorem dX5_digest_40 : decode cX5_digest 40 = .ok (.if_icmp .ge 16, 3) := by decide +kernel
theorem dX5_digest_43 : decode cX5_digest 43 = .ok (.aload_n 0, 1) := by decide +kernel
theorem dX5_digest_44 : decode cX5_digest 44 = .ok (.lload_n 1, 1) := by decide +kernel
theorem dX5_digest_45 : decode cX5_digest 45 = .ok (.iload_n 3, 1) := by decide +kernel
theorem dX5_digest_46 : decode cX5_digest 46 = .ok (.invokevirtual 221, 3) := by decide +kernel
theorem dX5_digest_49 : decode cX5_digest 49 = .ok (.lstore_n 1, 1) := by decide +kernel
theorem dX5_digest_50 : decode cX5_digest 50 = .ok (.iinc 3 1, 3) := by decide +kernel
theorem dX5_digest_53 : decode cX5_digest 53 = .ok (.goto (-21), 3) := by decide +kernel
theorem dX5_digest_56 : decode cX5_digest 56 = .ok (.aload_n 0, 1) := by decide +kernel
theorem dX5_digest_57 : decode cX5_digest 57 = .ok (.getfield 19, 3) := by decide +kernel
theorem dX5_digest_60 : decode cX5_digest 60 = .ok (.invokevirtual 183, 3) := by decide +kernel
theorem dX5_digest_63 : decode cX5_digest 63 = .ok (.ifCond .eq 19, 3) := by decide +kernel
theorem dX5_digest_66 : decode cX5_digest 66 = .ok (.lload_n 1, 1) := by decide +kernel
theorem dX5_digest_67 : decode cX5_digest 67 = .ok (.aload_n 0, 1) := by decide +kernel
theorem dX5_digest_68 : decode cX5_digest 68 = .ok (.invokevirtual 224, 3) := by decide +kernel
theorem dX5_digest_71 : decode cX5_digest 71 = .ok (.invokestatic 227, 3) := by decide +kernel
theorem dX5_digest_74 : decode cX5_digest 74 = .ok (.aload_n 0, 1) := by decide +kernel
theorem dX5_digest_75 : decode cX5_digest 75 = .ok (.invokevirtual 230, 3) := by decide +kernel
theorem dX5_digest_78 : decode cX5_digest 78 = .ok (.invokestatic 227, 3) := by decide +kernel
theorem dX5_digest_81 : decode cX5_digest 81 = .ok (.lstore_n 1, 1) := by decide +kernel
theorem dX5_digest_82 : decode cX5_digest 82 = .ok (.iconst 0, 1) := by decide +kernel
theorem dX5_digest_83 : decode cX5_digest 83 = .ok (.istore_n 3, 1) := by decide +kernel
theorem dX5_digest_84 : decode cX5_digest 84 = .ok (.iload_n 3, 1) := by decide +kernel
theorem dX5_digest_85 : decode cX5_digest 85 = .ok (.aload_n 0, 1) := by decide +kernel
theorem dX5_digest_86 : decode cX5_digest 86 = .ok (.getfield 12, 3) := by decide +kernel
theorem dX5_digest_89 : decode cX5_digest 89 = .ok (.getfield 42, 3) := by decide +kernel
theorem dX5_digest_92 : decode cX5_digest 92 = .ok (.if_icmp .ge 22, 3) := by decide +kernel
theorem dX5_digest_95 : decode cX5_digest 95 = .ok (.lload_n 1, 1) := by decide +kernel
theorem dX5_digest_96 : decode cX5_digest 96 = .ok (.aload_n 0, 1) := by decide +kernel
theorem dX5_digest_97 : decode cX5_digest 97 = .ok (.getfield 12, 3) := by decide +kernel
theorem dX5_digest_100 : decode cX5_digest 100 = .ok (.iload_n 3, 1) := by decide +kernel
theorem dX5_digest_101 : decode cX5_digest 101 = .ok (.invokevirtual 233, 3) := by decide +kernel
theorem dX5_digest_104 : decode cX5_digest 104 = .ok (.invokestatic 227, 3) := by decide +kernel
theorem dX5_digest_107 : decode cX5_digest 107 = .ok (.lstore_n 1, 1) := by decide +kernel
theorem dX5_digest_108 : decode cX5_digest 108 = .ok (.iinc 3 1, 3) := by decide +kernel
theorem dX5_digest_111 : decode cX5_digest 111 = .ok (.goto (-27), 3) := by decide +kernel
theorem dX5_digest_114 : decode cX5_digest 114 = .ok (.iconst 0, 1) := by decide +kernel
theorem dX5_digest_115 : decode cX5_digest 115 = .ok (.istore_n 3, 1) := by decide +kernel
theorem dX5_digest_116 : decode cX5_digest 116 = .ok (.iload_n 3, 1) := by decide +kernel
theorem dX5_digest_117 : decode cX5_digest 117 = .ok (.bipush 9, 2) := by decide +kernel
theorem dX5_digest_119 : decode cX5_digest 119 = .ok (.if_icmp .ge 19, 3) := by decide +kernel
theorem dX5_digest_122 : decode cX5_digest 122 = .ok (.lload_n 1, 1) := by decide +kernel
theorem dX5_digest_123 : decode cX5_digest 123 = .ok (.aload_n 0, 1) := by decide +kernel
theorem dX5_digest_124 : decode cX5_digest 124 = .ok (.iload_n 3, 1) := by decide +kernel
theorem dX5_digest_125 : decode cX5_digest 125 = .ok (.invokevirtual 236, 3) := by decide +kernel
theorem dX5_digest_128 : decode cX5_digest 128 = .ok (.invokestatic 227, 3) := by decide +kernel
theorem dX5_digest_131 : decode cX5_digest 131 = .ok (.lstore_n 1, 1) := by decide +kernel
theorem dX5_digest_132 : decode cX5_digest 132 = .ok (.iinc 3 1, 3) := by decide +kernel
theorem dX5_digest_135 : decode cX5_digest 135 = .ok (.goto (-19), 3) := by decide +kernel
theorem dX5_digest_138 : decode cX5_digest 138 = .ok (.lload_n 1, 1) := by decide +kernel
theorem dX5_digest_139 : decode cX5_digest 139 = .ok (.lreturn, 1) := by decide +kernel
theorem dX5_withCrossing_0 : decode cX5_withCrossing 0 = .ok (.lload_n 1, 1) := by decide +kernel
theorem dX5_withCrossing_1 : decode cX5_withCrossing 1 = .ok (.lstore 4, 2) := by decide +kernel
theorem dX5_withCrossing_3 : decode cX5_withCrossing 3 = .ok (.iconst 0, 1) := by decide +kernel
theorem dX5_withCrossing_4 : decode cX5_withCrossing 4 = .ok (.istore 6, 2) := by decide +kernel
theorem dX5_withCrossing_6 : decode cX5_withCrossing 6 = .ok (.iload 6, 2) := by decide +kernel
theorem dX5_withCrossing_8 : decode cX5_withCrossing 8 = .ok (.iconst 5, 1) := by decide +kernel
theorem dX5_withCrossing_9 : decode cX5_withCrossing 9 = .ok (.if_icmp .gt 23, 3) := by decide +kernel
theorem dX5_withCrossing_12 : decode cX5_withCrossing 12 = .ok (.lload 4, 2) := by decide +kernel
theorem dX5_withCrossing_14 : decode cX5_withCrossing 14 = .ok (.aload_n 0, 1) := by decide +kernel
theorem dX5_withCrossing_15 : decode cX5_withCrossing 15 = .ok (.iload_n 3, 1) := by decide +kernel
theorem dX5_withCrossing_16 : decode cX5_withCrossing 16 = .ok (.iload 6, 2) := by decide +kernel
theorem dX5_withCrossing_18 : decode cX5_withCrossing 18 = .ok (.invokevirtual 239, 3) := by decide +kernel
theorem dX5_withCrossing_21 : decode cX5_withCrossing 21 = .ok (.invokestatic 227, 3) := by decide +kernel
theorem dX5_withCrossing_24 : decode cX5_withCrossing 24 = .ok (.lstore 4, 2) := by decide +kernel
theorem dX5_withCrossing_26 : decode cX5_withCrossing 26 = .ok (.iinc 6 1, 3) := by decide +kernel
theorem dX5_withCrossing_29 : decode cX5_withCrossing 29 = .ok (.goto (-23), 3) := by decide +kernel
theorem dX5_withCrossing_32 : decode cX5_withCrossing 32 = .ok (.lload 4, 2) := by decide +kernel
theorem dX5_withCrossing_34 : decode cX5_withCrossing 34 = .ok (.aload_n 0, 1) := by decide +kernel
theorem dX5_withCrossing_35 : decode cX5_withCrossing 35 = .ok (.iload_n 3, 1) := by decide +kernel
theorem dX5_withCrossing_36 : decode cX5_withCrossing 36 = .ok (.iconst 0, 1) := by decide +kernel
theorem dX5_withCrossing_37 : decode cX5_withCrossing 37 = .ok (.invokevirtual 242, 3) := by decide +kernel
theorem dX5_withCrossing_40 : decode cX5_withCrossing 40 = .ok (.invokestatic 227, 3) := by decide +kernel
theorem dX5_withCrossing_43 : decode cX5_withCrossing 43 = .ok (.aload_n 0, 1) := by decide +kernel
theorem dX5_withCrossing_44 : decode cX5_withCrossing 44 = .ok (.iload_n 3, 1) := by decide +kernel
theorem dX5_withCrossing_45 : decode cX5_withCrossing 45 = .ok (.iconst 1, 1) := by decide +kernel
theorem dX5_withCrossing_46 : decode cX5_withCrossing 46 = .ok (.invokevirtual 242, 3) := by decide +kernel
theorem dX5_withCrossing_49 : decode cX5_withCrossing 49 = .ok (.invokestatic 227, 3) := by decide +kernel
theorem dX5_withCrossing_52 : decode cX5_withCrossing 52 = .ok (.lstore 4, 2) := by decide +kernel
theorem dX5_withCrossing_54 : decode cX5_withCrossing 54 = .ok (.iconst 0, 1) := by decide +kernel
theorem dX5_withCrossing_55 : decode cX5_withCrossing 55 = .ok (.istore 6, 2) := by decide +kernel
theorem dX5_withCrossing_57 : decode cX5_withCrossing 57 = .ok (.iload 6, 2) := by decide +kernel
theorem dX5_withCrossing_59 : decode cX5_withCrossing 59 = .ok (.aload_n 0, 1) := by decide +kernel
theorem dX5_withCrossing_60 : decode cX5_withCrossing 60 = .ok (.getfield 19, 3) := by decide +kernel
theorem dX5_withCrossing_63 : decode cX5_withCrossing 63 = .ok (.getfield 75, 3) := by decide +kernel
theorem dX5_withCrossing_66 : decode cX5_withCrossing 66 = .ok (.if_icmp .ge 72, 3) := by decide +kernel
theorem dX5_withCrossing_69 : decode cX5_withCrossing 69 = .ok (.lload 4, 2) := by decide +kernel
theorem dX5_withCrossing_71 : decode cX5_withCrossing 71 = .ok (.aload_n 0, 1) := by decide +kernel
theorem dX5_withCrossing_72 : decode cX5_withCrossing 72 = .ok (.iload_n 3, 1) := by decide +kernel
theorem dX5_withCrossing_73 : decode cX5_withCrossing 73 = .ok (.iload 6, 2) := by decide +kernel
theorem dX5_withCrossing_75 : decode cX5_withCrossing 75 = .ok (.iconst 0, 1) := by decide +kernel
theorem dX5_withCrossing_76 : decode cX5_withCrossing 76 = .ok (.invokevirtual 245, 3) := by decide +kernel
theorem dX5_withCrossing_79 : decode cX5_withCrossing 79 = .ok (.invokestatic 227, 3) := by decide +kernel
theorem dX5_withCrossing_82 : decode cX5_withCrossing 82 = .ok (.aload_n 0, 1) := by decide +kernel
theorem dX5_withCrossing_83 : decode cX5_withCrossing 83 = .ok (.iload_n 3, 1) := by decide +kernel
theorem dX5_withCrossing_84 : decode cX5_withCrossing 84 = .ok (.iload 6, 2) := by decide +kernel
theorem dX5_withCrossing_86 : decode cX5_withCrossing 86 = .ok (.iconst 1, 1) := by decide +kernel
theorem dX5_withCrossing_87 : decode cX5_withCrossing 87 = .ok (.invokevirtual 245, 3) := by decide +kernel
theorem dX5_withCrossing_90 : decode cX5_withCrossing 90 = .ok (.invokestatic 227, 3) := by decide +kernel
theorem dX5_withCrossing_93 : decode cX5_withCrossing 93 = .ok (.aload_n 0, 1) := by decide +kernel
theorem dX5_withCrossing_94 : decode cX5_withCrossing 94 = .ok (.iload_n 3, 1) := by decide +kernel
theorem dX5_withCrossing_95 : decode cX5_withCrossing 95 = .ok (.iload 6, 2) := by decide +kernel
theorem dX5_withCrossing_97 : decode cX5_withCrossing 97 = .ok (.iconst 2, 1) := by decide +kernel
theorem dX5_withCrossing_98 : decode cX5_withCrossing 98 = .ok (.invokevirtual 245, 3) := by decide +kernel
theorem dX5_withCrossing_101 : decode cX5_withCrossing 101 = .ok (.invokestatic 227, 3) := by decide +kernel
theorem dX5_withCrossing_104 : decode cX5_withCrossing 104 = .ok (.lstore 4, 2) := by decide +kernel
theorem dX5_withCrossing_106 : decode cX5_withCrossing 106 = .ok (.lload 4, 2) := by decide +kernel
theorem dX5_withCrossing_108 : decode cX5_withCrossing 108 = .ok (.aload_n 0, 1) := by decide +kernel
theorem dX5_withCrossing_109 : decode cX5_withCrossing 109 = .ok (.iload_n 3, 1) := by decide +kernel
theorem dX5_withCrossing_110 : decode cX5_withCrossing 110 = .ok (.iload 6, 2) := by decide +kernel
theorem dX5_withCrossing_112 : decode cX5_withCrossing 112 = .ok (.iconst 0, 1) := by decide +kernel
theorem dX5_withCrossing_113 : decode cX5_withCrossing 113 = .ok (.invokevirtual 249, 3) := by decide +kernel
theorem dX5_withCrossing_116 : decode cX5_withCrossing 116 = .ok (.invokestatic 227, 3) := by decide +kernel
theorem dX5_withCrossing_119 : decode cX5_withCrossing 119 = .ok (.aload_n 0, 1) := by decide +kernel
theorem dX5_withCrossing_120 : decode cX5_withCrossing 120 = .ok (.iload_n 3, 1) := by decide +kernel
theorem dX5_withCrossing_121 : decode cX5_withCrossing 121 = .ok (.iload 6, 2) := by decide +kernel
theorem dX5_withCrossing_123 : decode cX5_withCrossing 123 = .ok (.iconst 1, 1) := by decide +kernel
theorem dX5_withCrossing_124 : decode cX5_withCrossing 124 = .ok (.invokevirtual 249, 3) := by decide +kernel
theorem dX5_withCrossing_127 : decode cX5_withCrossing 127 = .ok (.invokestatic 227, 3) := by decide +kernel
theorem dX5_withCrossing_130 : decode cX5_withCrossing 130 = .ok (.lstore 4, 2) := by decide +kernel
theorem dX5_withCrossing_132 : decode cX5_withCrossing 132 = .ok (.iinc 6 1, 3) := by decide +kernel
theorem dX5_withCrossing_135 : decode cX5_withCrossing 135 = .ok (.goto (-78), 3) := by decide +kernel
theorem dX5_withCrossing_138 : decode cX5_withCrossing 138 = .ok (.lload 4, 2) := by decide +kernel
theorem dX5_withCrossing_140 : decode cX5_withCrossing 140 = .ok (.lreturn, 1) := by decide +kernel
theorem dX5_withParty_0 : decode cX5_withParty 0 = .ok (.lload_n 1, 1) := by decide +kernel
theorem dX5_withParty_1 : decode cX5_withParty 1 = .ok (.lstore 4, 2) := by decide +kernel
theorem dX5_withParty_3 : decode cX5_withParty 3 = .ok (.iconst 0, 1) := by decide +kernel
theorem dX5_withParty_4 : decode cX5_withParty 4 = .ok (.istore 6, 2) := by decide +kernel
theorem dX5_withParty_6 : decode cX5_withParty 6 = .ok (.iload 6, 2) := by decide +kernel
theorem dX5_withParty_8 : decode cX5_withParty 8 = .ok (.iconst 4, 1) := by decide +kernel
theorem dX5_withParty_9 : decode cX5_withParty 9 = .ok (.if_icmp .gt 23, 3) := by decide +kernel
theorem dX5_withParty_12 : decode cX5_withParty 12 = .ok (.lload 4, 2) := by decide +kernel
theorem dX5_withParty_14 : decode cX5_withParty 14 = .ok (.aload_n 0, 1) := by decide +kernel
theorem dX5_withParty_15 : decode cX5_withParty 15 = .ok (.iload_n 3, 1) := by decide +kernel
theorem dX5_withParty_16 : decode cX5_withParty 16 = .ok (.iload 6, 2) := by decide +kernel
theorem dX5_withParty_18 : decode cX5_withParty 18 = .ok (.invokevirtual 252, 3) := by decide +kernel
theorem dX5_withParty_21 : decode cX5_withParty 21 = .ok (.invokestatic 227, 3) := by decide +kernel
theorem dX5_withParty_24 : decode cX5_withParty 24 = .ok (.lstore 4, 2) := by decide +kernel
theorem dX5_withParty_26 : decode cX5_withParty 26 = .ok (.iinc 6 1, 3) := by decide +kernel
theorem dX5_withParty_29 : decode cX5_withParty 29 = .ok (.goto (-23), 3) := by decide +kernel
theorem dX5_withParty_32 : decode cX5_withParty 32 = .ok (.iconst 0, 1) := by decide +kernel
theorem dX5_withParty_33 : decode cX5_withParty 33 = .ok (.istore 6, 2) := by decide +kernel
theorem dX5_withParty_35 : decode cX5_withParty 35 = .ok (.iload 6, 2) := by decide +kernel
theorem dX5_withParty_37 : decode cX5_withParty 37 = .ok (.aload_n 0, 1) := by decide +kernel
theorem dX5_withParty_38 : decode cX5_withParty 38 = .ok (.getfield 35, 3) := by decide +kernel
theorem dX5_withParty_41 : decode cX5_withParty 41 = .ok (.getfield 101, 3) := by decide +kernel
theorem dX5_withParty_44 : decode cX5_withParty 44 = .ok (.if_icmp .ge 23, 3) := by decide +kernel
theorem dX5_withParty_47 : decode cX5_withParty 47 = .ok (.lload 4, 2) := by decide +kernel
theorem dX5_withParty_49 : decode cX5_withParty 49 = .ok (.aload_n 0, 1) := by decide +kernel
theorem dX5_withParty_50 : decode cX5_withParty 50 = .ok (.iload_n 3, 1) := by decide +kernel
theorem dX5_withParty_51 : decode cX5_withParty 51 = .ok (.iload 6, 2) := by decide +kernel
theorem dX5_withParty_53 : decode cX5_withParty 53 = .ok (.invokevirtual 255, 3) := by decide +kernel
theorem dX5_withParty_56 : decode cX5_withParty 56 = .ok (.invokestatic 227, 3) := by decide +kernel
theorem dX5_withParty_59 : decode cX5_withParty 59 = .ok (.lstore 4, 2) := by decide +kernel
theorem dX5_withParty_61 : decode cX5_withParty 61 = .ok (.iinc 6 1, 3) := by decide +kernel
theorem dX5_withParty_64 : decode cX5_withParty 64 = .ok (.goto (-29), 3) := by decide +kernel
theorem dX5_withParty_67 : decode cX5_withParty 67 = .ok (.lload 4, 2) := by decide +kernel
theorem dX5_withParty_69 : decode cX5_withParty 69 = .ok (.lreturn, 1) := by decide +kernel
theorem dX5_with_0 : decode cX5_with 0 = .ok (.ldc2_w 258, 3) := by decide +kernel
theorem dX5_with_3 : decode cX5_with 3 = .ok (.lload_n 0, 1) := by decide +kernel
theorem dX5_with_4 : decode cX5_with 4 = .ok (.lmul, 1) := by decide +kernel
theorem dX5_with_5 : decode cX5_with 5 = .ok (.iload_n 2, 1) := by decide +kernel
theorem dX5_with_6 : decode cX5_with 6 = .ok (.i2l, 1) := by decide +kernel
theorem dX5_with_7 : decode cX5_with 7 = .ok (.ladd, 1) := by decide +kernel
theorem dX5_with_8 : decode cX5_with 8 = .ok (.lreturn, 1) := by decide +kernel
theorem dX5_seedAfter_0 : decode cX5_seedAfter 0 = .ok (.ldc2_w 260, 3) := by decide +kernel
theorem dX5_seedAfter_3 : decode cX5_seedAfter 3 = .ok (.iload_n 0, 1) := by decide +kernel
theorem dX5_seedAfter_4 : decode cX5_seedAfter 4 = .ok (.i2l, 1) := by decide +kernel
theorem dX5_seedAfter_5 : decode cX5_seedAfter 5 = .ok (.lmul, 1) := by decide +kernel
theorem dX5_seedAfter_6 : decode cX5_seedAfter 6 = .ok (.ldc2_w 262, 3) := by decide +kernel
theorem dX5_seedAfter_9 : decode cX5_seedAfter 9 = .ok (.ladd, 1) := by decide +kernel
theorem dX5_seedAfter_10 : decode cX5_seedAfter 10 = .ok (.ldc2_w 264, 3) := by decide +kernel
theorem dX5_seedAfter_13 : decode cX5_seedAfter 13 = .ok (.lrem, 1) := by decide +kernel
theorem dX5_seedAfter_14 : decode cX5_seedAfter 14 = .ok (.l2i, 1) := by decide +kernel
theorem dX5_seedAfter_15 : decode cX5_seedAfter 15 = .ok (.ireturn, 1) := by decide +kernel
theorem dX5_drawOfTwo_0 : decode cX5_drawOfTwo 0 = .ok (.iload_n 0, 1) := by decide +kernel
theorem dX5_drawOfTwo_1 : decode cX5_drawOfTwo 1 = .ok (.ldc_w 266, 3) := by decide +kernel
theorem dX5_drawOfTwo_4 : decode cX5_drawOfTwo 4 = .ok (.idiv, 1) := by decide +kernel
theorem dX5_drawOfTwo_5 : decode cX5_drawOfTwo 5 = .ok (.iconst 2, 1) := by decide +kernel
theorem dX5_drawOfTwo_6 : decode cX5_drawOfTwo 6 = .ok (.irem, 1) := by decide +kernel
theorem dX5_drawOfTwo_7 : decode cX5_drawOfTwo 7 = .ok (.ireturn, 1) := by decide +kernel
theorem dX5_isWay_0 : decode cX5_isWay 0 = .ok (.iload_n 0, 1) := by decide +kernel
theorem dX5_isWay_1 : decode cX5_isWay 1 = .ok (.ifCond .eq 8, 3) := by decide +kernel
theorem dX5_isWay_4 : decode cX5_isWay 4 = .ok (.iload_n 0, 1) := by decide +kernel
theorem dX5_isWay_5 : decode cX5_isWay 5 = .ok (.iconst 1, 1) := by decide +kernel
theorem dX5_isWay_6 : decode cX5_isWay 6 = .ok (.if_icmp .ne 7, 3) := by decide +kernel
theorem dX5_isWay_9 : decode cX5_isWay 9 = .ok (.iconst 1, 1) := by decide +kernel
theorem dX5_isWay_10 : decode cX5_isWay 10 = .ok (.goto 4, 3) := by decide +kernel
theorem dX5_isWay_13 : decode cX5_isWay 13 = .ok (.iconst 0, 1) := by decide +kernel
theorem dX5_isWay_14 : decode cX5_isWay 14 = .ok (.ireturn, 1) := by decide +kernel
theorem dX5_isSuch_0 : decode cX5_isSuch 0 = .ok (.iload_n 1, 1) := by decide +kernel
theorem dX5_isSuch_1 : decode cX5_isSuch 1 = .ok (.ifCond .eq 18, 3) := by decide +kernel
theorem dX5_isSuch_4 : decode cX5_isSuch 4 = .ok (.iload_n 1, 1) := by decide +kernel
theorem dX5_isSuch_5 : decode cX5_isSuch 5 = .ok (.iload_n 0, 1) := by decide +kernel
theorem dX5_isSuch_6 : decode cX5_isSuch 6 = .ok (.if_icmp .eq 13, 3) := by decide +kernel
theorem dX5_isSuch_9 : decode cX5_isSuch 9 = .ok (.iload_n 1, 1) := by decide +kernel
theorem dX5_isSuch_10 : decode cX5_isSuch 10 = .ok (.iconst 1, 1) := by decide +kernel
theorem dX5_isSuch_11 : decode cX5_isSuch 11 = .ok (.if_icmp .ne 12, 3) := by decide +kernel
theorem dX5_isSuch_14 : decode cX5_isSuch 14 = .ok (.iload_n 0, 1) := by decide +kernel
theorem dX5_isSuch_15 : decode cX5_isSuch 15 = .ok (.iconst 4, 1) := by decide +kernel
theorem dX5_isSuch_16 : decode cX5_isSuch 16 = .ok (.if_icmp .ne 7, 3) := by decide +kernel
theorem dX5_isSuch_19 : decode cX5_isSuch 19 = .ok (.iconst 1, 1) := by decide +kernel
theorem dX5_isSuch_20 : decode cX5_isSuch 20 = .ok (.goto 4, 3) := by decide +kernel
theorem dX5_isSuch_23 : decode cX5_isSuch 23 = .ok (.iconst 0, 1) := by decide +kernel
theorem dX5_isSuch_24 : decode cX5_isSuch 24 = .ok (.ireturn, 1) := by decide +kernel
theorem dX5_orNone_0 : decode cX5_orNone 0 = .ok (.iload_n 0, 1) := by decide +kernel
theorem dX5_orNone_1 : decode cX5_orNone 1 = .ok (.sipush 1000, 3) := by decide +kernel
theorem dX5_orNone_4 : decode cX5_orNone 4 = .ok (.if_icmp .lt 7, 3) := by decide +kernel
theorem dX5_orNone_7 : decode cX5_orNone 7 = .ok (.iconst (-1), 1) := by decide +kernel
theorem dX5_orNone_8 : decode cX5_orNone 8 = .ok (.goto 4, 3) := by decide +kernel
theorem dX5_orNone_11 : decode cX5_orNone 11 = .ok (.iload_n 0, 1) := by decide +kernel
theorem dX5_orNone_12 : decode cX5_orNone 12 = .ok (.ireturn, 1) := by decide +kernel
theorem dX5_cell_0 : decode cX5_cell 0 = .ok (.iload_n 1, 1) := by decide +kernel
theorem dX5_cell_1 : decode cX5_cell 1 = .ok (.ifCond .lt 15, 3) := by decide +kernel
theorem dX5_cell_4 : decode cX5_cell 4 = .ok (.iload_n 1, 1) := by decide +kernel
theorem dX5_cell_5 : decode cX5_cell 5 = .ok (.aload_n 0, 1) := by decide +kernel
theorem dX5_cell_6 : decode cX5_cell 6 = .ok (.arraylength, 1) := by decide +kernel
theorem dX5_cell_7 : decode cX5_cell 7 = .ok (.if_icmp .ge 9, 3) := by decide +kernel
theorem dX5_cell_10 : decode cX5_cell 10 = .ok (.aload_n 0, 1) := by decide +kernel
theorem dX5_cell_11 : decode cX5_cell 11 = .ok (.iload_n 1, 1) := by decide +kernel
theorem dX5_cell_12 : decode cX5_cell 12 = .ok (.iaload, 1) := by decide +kernel
theorem dX5_cell_13 : decode cX5_cell 13 = .ok (.goto 4, 3) := by decide +kernel
theorem dX5_cell_16 : decode cX5_cell 16 = .ok (.iconst 0, 1) := by decide +kernel
theorem dX5_cell_17 : decode cX5_cell 17 = .ok (.ireturn, 1) := by decide +kernel
theorem dX5_put_0 : decode cX5_put 0 = .ok (.iload_n 1, 1) := by decide +kernel
theorem dX5_put_1 : decode cX5_put 1 = .ok (.ifCond .lt 13, 3) := by decide +kernel
theorem dX5_put_4 : decode cX5_put 4 = .ok (.iload_n 1, 1) := by decide +kernel
theorem dX5_put_5 : decode cX5_put 5 = .ok (.aload_n 0, 1) := by decide +kernel
theorem dX5_put_6 : decode cX5_put 6 = .ok (.arraylength, 1) := by decide +kernel
theorem dX5_put_7 : decode cX5_put 7 = .ok (.if_icmp .ge 7, 3) := by decide +kernel
theorem dX5_put_10 : decode cX5_put 10 = .ok (.aload_n 0, 1) := by decide +kernel
theorem dX5_put_11 : decode cX5_put 11 = .ok (.iload_n 1, 1) := by decide +kernel
theorem dX5_put_12 : decode cX5_put 12 = .ok (.iload_n 2, 1) := by decide +kernel
theorem dX5_put_13 : decode cX5_put 13 = .ok (.iastore, 1) := by decide +kernel
theorem dX5_put_14 : decode cX5_put 14 = .ok (.return_, 1) := by decide +kernel
theorem dX6_init_0 : decode cX6_init 0 = .ok (.aload_n 0, 1) := by decide +kernel
theorem dX6_init_1 : decode cX6_init 1 = .ok (.invokespecial 1, 3) := by decide +kernel
theorem dX6_init_4 : decode cX6_init 4 = .ok (.aload_n 0, 1) := by decide +kernel
theorem dX6_init_5 : decode cX6_init 5 = .ok (.bipush 28, 2) := by decide +kernel
theorem dX6_init_7 : decode cX6_init 7 = .ok (.newarray .int, 2) := by decide +kernel
theorem dX6_init_9 : decode cX6_init 9 = .ok (.putfield 7, 3) := by decide +kernel
theorem dX6_init_12 : decode cX6_init 12 = .ok (.aload_n 0, 1) := by decide +kernel
theorem dX6_init_13 : decode cX6_init 13 = .ok (.bipush 18, 2) := by decide +kernel
theorem dX6_init_15 : decode cX6_init 15 = .ok (.newarray .int, 2) := by decide +kernel
theorem dX6_init_17 : decode cX6_init 17 = .ok (.putfield 13, 3) := by decide +kernel
theorem dX6_init_20 : decode cX6_init 20 = .ok (.aload_n 0, 1) := by decide +kernel
theorem dX6_init_21 : decode cX6_init 21 = .ok (.bipush 6, 2) := by decide +kernel
theorem dX6_init_23 : decode cX6_init 23 = .ok (.newarray .int, 2) := by decide +kernel
theorem dX6_init_25 : decode cX6_init 25 = .ok (.putfield 16, 3) := by decide +kernel
theorem dX6_init_28 : decode cX6_init 28 = .ok (.aload_n 0, 1) := by decide +kernel
theorem dX6_init_29 : decode cX6_init 29 = .ok (.bipush 12, 2) := by decide +kernel
theorem dX6_init_31 : decode cX6_init 31 = .ok (.newarray .int, 2) := by decide +kernel
theorem dX6_init_33 : decode cX6_init 33 = .ok (.putfield 19, 3) := by decide +kernel
theorem dX6_init_36 : decode cX6_init 36 = .ok (.aload_n 0, 1) := by decide +kernel
theorem dX6_init_37 : decode cX6_init 37 = .ok (.bipush 12, 2) := by decide +kernel
theorem dX6_init_39 : decode cX6_init 39 = .ok (.newarray .int, 2) := by decide +kernel
theorem dX6_init_41 : decode cX6_init 41 = .ok (.putfield 22, 3) := by decide +kernel
theorem dX6_init_44 : decode cX6_init 44 = .ok (.aload_n 0, 1) := by decide +kernel
theorem dX6_init_45 : decode cX6_init 45 = .ok (.bipush 6, 2) := by decide +kernel
theorem dX6_init_47 : decode cX6_init 47 = .ok (.newarray .int, 2) := by decide +kernel
theorem dX6_init_49 : decode cX6_init 49 = .ok (.putfield 25, 3) := by decide +kernel
theorem dX6_init_52 : decode cX6_init 52 = .ok (.aload_n 0, 1) := by decide +kernel
theorem dX6_init_53 : decode cX6_init 53 = .ok (.sipush 384, 3) := by decide +kernel
theorem dX6_init_56 : decode cX6_init 56 = .ok (.newarray .int, 2) := by decide +kernel
theorem dX6_init_58 : decode cX6_init 58 = .ok (.putfield 28, 3) := by decide +kernel
theorem dX6_init_61 : decode cX6_init 61 = .ok (.aload_n 0, 1) := by decide +kernel
theorem dX6_init_62 : decode cX6_init 62 = .ok (.bipush 36, 2) := by decide +kernel
theorem dX6_init_64 : decode cX6_init 64 = .ok (.newarray .int, 2) := by decide +kernel
theorem dX6_init_66 : decode cX6_init 66 = .ok (.putfield 31, 3) := by decide +kernel
theorem dX6_init_69 : decode cX6_init 69 = .ok (.aload_n 0, 1) := by decide +kernel
theorem dX6_init_70 : decode cX6_init 70 = .ok (.bipush 16, 2) := by decide +kernel
theorem dX6_init_72 : decode cX6_init 72 = .ok (.newarray .int, 2) := by decide +kernel
theorem dX6_init_74 : decode cX6_init 74 = .ok (.putfield 34, 3) := by decide +kernel
theorem dX6_init_77 : decode cX6_init 77 = .ok (.aload_n 0, 1) := by decide +kernel
theorem dX6_init_78 : decode cX6_init 78 = .ok (.bipush 12, 2) := by decide +kernel
theorem dX6_init_80 : decode cX6_init 80 = .ok (.newarray .int, 2) := by decide +kernel
theorem dX6_init_82 : decode cX6_init 82 = .ok (.putfield 37, 3) := by decide +kernel
theorem dX6_init_85 : decode cX6_init 85 = .ok (.aload_n 0, 1) := by decide +kernel
theorem dX6_init_86 : decode cX6_init 86 = .ok (.bipush 16, 2) := by decide +kernel
theorem dX6_init_88 : decode cX6_init 88 = .ok (.newarray .int, 2) := by decide +kernel
theorem dX6_init_90 : decode cX6_init 90 = .ok (.putfield 40, 3) := by decide +kernel
theorem dX6_init_93 : decode cX6_init 93 = .ok (.aload_n 0, 1) := by decide +kernel
theorem dX6_init_94 : decode cX6_init 94 = .ok (.iconst (-1), 1) := by decide +kernel
theorem dX6_init_95 : decode cX6_init 95 = .ok (.putfield 43, 3) := by decide +kernel
theorem dX6_init_98 : decode cX6_init 98 = .ok (.return_, 1) := by decide +kernel
theorem dX6_in_0 : decode cX6_in 0 = .ok (.lload_n 0, 1) := by decide +kernel
theorem dX6_in_1 : decode cX6_in 1 = .ok (.lload_n 2, 1) := by decide +kernel
theorem dX6_in_2 : decode cX6_in 2 = .ok (.lcmp, 1) := by decide +kernel
theorem dX6_in_3 : decode cX6_in 3 = .ok (.ifCond .lt 14, 3) := by decide +kernel
theorem dX6_in_6 : decode cX6_in 6 = .ok (.lload_n 0, 1) := by decide +kernel
theorem dX6_in_7 : decode cX6_in 7 = .ok (.lload 4, 2) := by decide +kernel
theorem dX6_in_9 : decode cX6_in 9 = .ok (.lcmp, 1) := by decide +kernel
theorem dX6_in_10 : decode cX6_in 10 = .ok (.ifCond .gt 7, 3) := by decide +kernel
theorem dX6_in_13 : decode cX6_in 13 = .ok (.iconst 1, 1) := by decide +kernel
theorem dX6_in_14 : decode cX6_in 14 = .ok (.goto 4, 3) := by decide +kernel
theorem dX6_in_17 : decode cX6_in 17 = .ok (.iconst 0, 1) := by decide +kernel
theorem dX6_in_18 : decode cX6_in 18 = .ok (.ireturn, 1) := by decide +kernel
theorem dX6_copy_0 : decode cX6_copy 0 = .ok (.iconst 0, 1) := by decide +kernel
theorem dX6_copy_1 : decode cX6_copy 1 = .ok (.istore_n 2, 1) := by decide +kernel
theorem dX6_copy_2 : decode cX6_copy 2 = .ok (.iload_n 2, 1) := by decide +kernel
theorem dX6_copy_3 : decode cX6_copy 3 = .ok (.aload_n 0, 1) := by decide +kernel
theorem dX6_copy_4 : decode cX6_copy 4 = .ok (.arraylength, 1) := by decide +kernel
theorem dX6_copy_5 : decode cX6_copy 5 = .ok (.if_icmp .ge 15, 3) := by decide +kernel
theorem dX6_copy_8 : decode cX6_copy 8 = .ok (.aload_n 1, 1) := by decide +kernel
theorem dX6_copy_9 : decode cX6_copy 9 = .ok (.iload_n 2, 1) := by decide +kernel
theorem dX6_copy_10 : decode cX6_copy 10 = .ok (.aload_n 0, 1) := by decide +kernel
theorem dX6_copy_11 : decode cX6_copy 11 = .ok (.iload_n 2, 1) := by decide +kernel
theorem dX6_copy_12 : decode cX6_copy 12 = .ok (.iaload, 1) := by decide +kernel
theorem dX6_copy_13 : decode cX6_copy 13 = .ok (.iastore, 1) := by decide +kernel
theorem dX6_copy_14 : decode cX6_copy 14 = .ok (.iinc 2 1, 3) := by decide +kernel
theorem dX6_copy_17 : decode cX6_copy 17 = .ok (.goto (-15), 3) := by decide +kernel
theorem dX6_copy_20 : decode cX6_copy 20 = .ok (.return_, 1) := by decide +kernel
theorem dX6_letter_0 : decode cX6_letter 0 = .ok (.iload_n 1, 1) := by decide +kernel
theorem dX6_letter_1 : decode cX6_letter 1 = .ok (.i2l, 1) := by decide +kernel
theorem dX6_letter_2 : decode cX6_letter 2 = .ok (.lconst 1, 1) := by decide +kernel
theorem dX6_letter_3 : decode cX6_letter 3 = .ok (.ldc2_w 47, 3) := by decide +kernel
theorem dX6_letter_6 : decode cX6_letter 6 = .ok (.invokestatic 49, 3) := by decide +kernel
theorem dX6_letter_9 : decode cX6_letter 9 = .ok (.ifCond .ne 6, 3) := by decide +kernel
theorem dX6_letter_12 : decode cX6_letter 12 = .ok (.bipush (-102), 2) := by decide +kernel
theorem dX6_letter_14 : decode cX6_letter 14 = .ok (.ireturn, 1) := by decide +kernel
theorem dX6_letter_15 : decode cX6_letter 15 = .ok (.aload_n 0, 1) := by decide +kernel
theorem dX6_letter_16 : decode cX6_letter 16 = .ok (.getfield 53, 3) := by decide +kernel
theorem dX6_letter_19 : decode cX6_letter 19 = .ok (.bipush 28, 2) := by decide +kernel
theorem dX6_letter_21 : decode cX6_letter 21 = .ok (.if_icmp .ne 6, 3) := by decide +kernel
theorem dX6_letter_24 : decode cX6_letter 24 = .ok (.bipush (-104), 2) := by decide +kernel
theorem dX6_letter_26 : decode cX6_letter 26 = .ok (.ireturn, 1) := by decide +kernel
theorem dX6_letter_27 : decode cX6_letter 27 = .ok (.aload_n 0, 1) := by decide +kernel
theorem dX6_letter_28 : decode cX6_letter 28 = .ok (.getfield 7, 3) := by decide +kernel
theorem dX6_letter_31 : decode cX6_letter 31 = .ok (.aload_n 0, 1) := by decide +kernel
theorem dX6_letter_32 : decode cX6_letter 32 = .ok (.getfield 53, 3) := by decide +kernel
theorem dX6_letter_35 : decode cX6_letter 35 = .ok (.iload_n 1, 1) := by decide +kernel
theorem dX6_letter_36 : decode cX6_letter 36 = .ok (.iastore, 1) := by decide +kernel
theorem dX6_letter_37 : decode cX6_letter 37 = .ok (.aload_n 0, 1) := by decide +kernel
theorem dX6_letter_38 : decode cX6_letter 38 = .ok (.dup, 1) := by decide +kernel
theorem dX6_letter_39 : decode cX6_letter 39 = .ok (.getfield 53, 3) := by decide +kernel
theorem dX6_letter_42 : decode cX6_letter 42 = .ok (.iconst 1, 1) := by decide +kernel
theorem dX6_letter_43 : decode cX6_letter 43 = .ok (.iadd, 1) := by decide +kernel
theorem dX6_letter_44 : decode cX6_letter 44 = .ok (.putfield 53, 3) := by decide +kernel
theorem dX6_letter_47 : decode cX6_letter 47 = .ok (.aload_n 0, 1) := by decide +kernel
theorem dX6_letter_48 : decode cX6_letter 48 = .ok (.getfield 53, 3) := by decide +kernel
theorem dX6_letter_51 : decode cX6_letter 51 = .ok (.ireturn, 1) := by decide +kernel
theorem dX6_blank_0 : decode cX6_blank 0 = .ok (.aload_n 0, 1) := by decide +kernel
theorem dX6_blank_1 : decode cX6_blank 1 = .ok (.getfield 53, 3) := by decide +kernel
theorem dX6_blank_4 : decode cX6_blank 4 = .ok (.istore_n 1, 1) := by decide +kernel
theorem dX6_blank_5 : decode cX6_blank 5 = .ok (.aload_n 0, 1) := by decide +kernel
theorem dX6_blank_6 : decode cX6_blank 6 = .ok (.iconst 0, 1) := by decide +kernel
theorem dX6_blank_7 : decode cX6_blank 7 = .ok (.putfield 53, 3) := by decide +kernel
theorem dX6_blank_10 : decode cX6_blank 10 = .ok (.iload_n 1, 1) := by decide +kernel
theorem dX6_blank_11 : decode cX6_blank 11 = .ok (.ireturn, 1) := by decide +kernel
theorem dX6_kindBy_0 : decode cX6_kindBy 0 = .ok (.iload_n 0, 1) := by decide +kernel
theorem dX6_kindBy_1 : decode cX6_kindBy 1 = .ok (.bipush 46, 2) := by decide +kernel
theorem dX6_kindBy_3 : decode cX6_kindBy 3 = .ok (.if_icmp .ne 7, 3) := by decide +kernel
theorem dX6_kindBy_6 : decode cX6_kindBy 6 = .ok (.iconst 0, 1) := by decide +kernel
theorem dX6_kindBy_7 : decode cX6_kindBy 7 = .ok (.goto 44, 3) := by decide +kernel
theorem dX6_kindBy_10 : decode cX6_kindBy 10 = .ok (.iload_n 0, 1) := by decide +kernel
theorem dX6_kindBy_11 : decode cX6_kindBy 11 = .ok (.bipush 100, 2) := by decide +kernel
theorem dX6_kindBy_13 : decode cX6_kindBy 13 = .ok (.if_icmp .ne 7, 3) := by decide +kernel
theorem dX6_kindBy_16 : decode cX6_kindBy 16 = .ok (.iconst 1, 1) := by decide +kernel
theorem dX6_kindBy_17 : decode cX6_kindBy 17 = .ok (.goto 34, 3) := by decide +kernel
theorem dX6_kindBy_20 : decode cX6_kindBy 20 = .ok (.iload_n 0, 1) := by decide +kernel
theorem dX6_kindBy_21 : decode cX6_kindBy 21 = .ok (.bipush 115, 2) := by decide +kernel
theorem dX6_kindBy_23 : decode cX6_kindBy 23 = .ok (.if_icmp .ne 7, 3) := by decide +kernel
theorem dX6_kindBy_26 : decode cX6_kindBy 26 = .ok (.iconst 2, 1) := by decide +kernel
theorem dX6_kindBy_27 : decode cX6_kindBy 27 = .ok (.goto 24, 3) := by decide +kernel
theorem dX6_kindBy_30 : decode cX6_kindBy 30 = .ok (.iload_n 0, 1) := by decide +kernel
theorem dX6_kindBy_31 : decode cX6_kindBy 31 = .ok (.bipush 98, 2) := by decide +kernel
theorem dX6_kindBy_33 : decode cX6_kindBy 33 = .ok (.if_icmp .ne 7, 3) := by decide +kernel
theorem dX6_kindBy_36 : decode cX6_kindBy 36 = .ok (.iconst 3, 1) := by decide +kernel
theorem dX6_kindBy_37 : decode cX6_kindBy 37 = .ok (.goto 14, 3) := by decide +kernel
theorem dX6_kindBy_40 : decode cX6_kindBy 40 = .ok (.iload_n 0, 1) := by decide +kernel
theorem dX6_kindBy_41 : decode cX6_kindBy 41 = .ok (.bipush 119, 2) := by decide +kernel
theorem dX6_kindBy_43 : decode cX6_kindBy 43 = .ok (.if_icmp .ne 7, 3) := by decide +kernel
theorem dX6_kindBy_46 : decode cX6_kindBy 46 = .ok (.iconst 4, 1) := by decide +kernel
theorem dX6_kindBy_47 : decode cX6_kindBy 47 = .ok (.goto 4, 3) := by decide +kernel
theorem dX6_kindBy_50 : decode cX6_kindBy 50 = .ok (.iconst (-1), 1) := by decide +kernel
theorem dX6_kindBy_51 : decode cX6_kindBy 51 = .ok (.ireturn, 1) := by decide +kernel
theorem dX6_go_0 : decode cX6_go 0 = .ok (.iload_n 1, 1) := by decide +kernel
theorem dX6_go_1 : decode cX6_go 1 = .ok (.bipush 48, 2) := by decide +kernel
theorem dX6_go_3 : decode cX6_go 3 = .ok (.isub, 1) := by decide +kernel
theorem dX6_go_4 : decode cX6_go 4 = .ok (.istore_n 2, 1) := by decide +kernel
theorem dX6_go_5 : decode cX6_go 5 = .ok (.aload_n 0, 1) := by decide +kernel
theorem dX6_go_6 : decode cX6_go 6 = .ok (.getfield 56, 3) := by decide +kernel
theorem dX6_go_9 : decode cX6_go 9 = .ok (.istore_n 3, 1) := by decide +kernel
theorem dX6_go_10 : decode cX6_go 10 = .ok (.aload_n 0, 1) := by decide +kernel
theorem dX6_go_11 : decode cX6_go 11 = .ok (.dup, 1) := by decide +kernel
theorem dX6_go_12 : decode cX6_go 12 = .ok (.getfield 56, 3) := by decide +kernel
theorem dX6_go_15 : decode cX6_go 15 = .ok (.iconst 1, 1) := by decide +kernel
theorem dX6_go_16 : decode cX6_go 16 = .ok (.iadd, 1) := by decide +kernel
theorem dX6_go_17 : decode cX6_go 17 = .ok (.putfield 56, 3) := by decide +kernel
theorem dX6_go_20 : decode cX6_go 20 = .ok (.iload_n 3, 1) := by decide +kernel
theorem dX6_go_21 : decode cX6_go 21 = .ok (.tableswitch 195 0 4 #[35, 64, 88, 122, 180], 35) := by decide +kernel
theorem dX6_go_56 : decode cX6_go 56 = .ok (.aload_n 0, 1) := by decide +kernel
theorem dX6_go_57 : decode cX6_go 57 = .ok (.getfield 13, 3) := by decide +kernel
theorem dX6_go_60 : decode cX6_go 60 = .ok (.iconst 3, 1) := by decide +kernel
theorem dX6_go_61 : decode cX6_go 61 = .ok (.aload_n 0, 1) := by decide +kernel
theorem dX6_go_62 : decode cX6_go 62 = .ok (.getfield 59, 3) := by decide +kernel
theorem dX6_go_65 : decode cX6_go 65 = .ok (.imul, 1) := by decide +kernel
theorem dX6_go_66 : decode cX6_go 66 = .ok (.iload_n 1, 1) := by decide +kernel
theorem dX6_go_67 : decode cX6_go 67 = .ok (.invokestatic 62, 3) := by decide +kernel
theorem dX6_go_70 : decode cX6_go 70 = .ok (.iastore, 1) := by decide +kernel
theorem dX6_go_71 : decode cX6_go 71 = .ok (.iload_n 1, 1) := by decide +kernel
theorem dX6_go_72 : decode cX6_go 72 = .ok (.invokestatic 62, 3) := by decide +kernel
theorem dX6_go_75 : decode cX6_go 75 = .ok (.iconst (-1), 1) := by decide +kernel
theorem dX6_go_76 : decode cX6_go 76 = .ok (.if_icmp .eq 7, 3) := by decide +kernel
theorem dX6_go_79 : decode cX6_go 79 = .ok (.iconst 1, 1) := by decide +kernel
theorem dX6_go_80 : decode cX6_go 80 = .ok (.goto 4, 3) := by decide +kernel
theorem dX6_go_83 : decode cX6_go 83 = .ok (.iconst 0, 1) := by decide +kernel
theorem dX6_go_84 : decode cX6_go 84 = .ok (.ireturn, 1) := by decide +kernel
theorem dX6_go_85 : decode cX6_go 85 = .ok (.aload_n 0, 1) := by decide +kernel
theorem dX6_go_86 : decode cX6_go 86 = .ok (.getfield 13, 3) := by decide +kernel
theorem dX6_go_89 : decode cX6_go 89 = .ok (.iconst 3, 1) := by decide +kernel
theorem dX6_go_90 : decode cX6_go 90 = .ok (.aload_n 0, 1) := by decide +kernel
theorem dX6_go_91 : decode cX6_go 91 = .ok (.getfield 59, 3) := by decide +kernel
theorem dX6_go_94 : decode cX6_go 94 = .ok (.imul, 1) := by decide +kernel
theorem dX6_go_95 : decode cX6_go 95 = .ok (.iconst 1, 1) := by decide +kernel
theorem dX6_go_96 : decode cX6_go 96 = .ok (.iadd, 1) := by decide +kernel
theorem dX6_go_97 : decode cX6_go 97 = .ok (.iload_n 2, 1) := by decide +kernel
theorem dX6_go_98 : decode cX6_go 98 = .ok (.iastore, 1) := by decide +kernel
theorem dX6_go_99 : decode cX6_go 99 = .ok (.iload_n 2, 1) := by decide +kernel
theorem dX6_go_100 : decode cX6_go 100 = .ok (.i2l, 1) := by decide +kernel
theorem dX6_go_101 : decode cX6_go 101 = .ok (.lconst 0, 1) := by decide +kernel
theorem dX6_go_102 : decode cX6_go 102 = .ok (.ldc2_w 66, 3) := by decide +kernel
theorem dX6_go_105 : decode cX6_go 105 = .ok (.invokestatic 49, 3) := by decide +kernel
theorem dX6_go_108 : decode cX6_go 108 = .ok (.ireturn, 1) := by decide +kernel
theorem dX6_go_109 : decode cX6_go 109 = .ok (.aload_n 0, 1) := by decide +kernel
theorem dX6_go_110 : decode cX6_go 110 = .ok (.getfield 13, 3) := by decide +kernel
theorem dX6_go_113 : decode cX6_go 113 = .ok (.iconst 3, 1) := by decide +kernel
theorem dX6_go_114 : decode cX6_go 114 = .ok (.aload_n 0, 1) := by decide +kernel
theorem dX6_go_115 : decode cX6_go 115 = .ok (.getfield 59, 3) := by decide +kernel
theorem dX6_go_118 : decode cX6_go 118 = .ok (.imul, 1) := by decide +kernel
theorem dX6_go_119 : decode cX6_go 119 = .ok (.iconst 2, 1) := by decide +kernel
theorem dX6_go_120 : decode cX6_go 120 = .ok (.iadd, 1) := by decide +kernel
theorem dX6_go_121 : decode cX6_go 121 = .ok (.iload_n 2, 1) := by decide +kernel
theorem dX6_go_122 : decode cX6_go 122 = .ok (.iastore, 1) := by decide +kernel
theorem dX6_go_123 : decode cX6_go 123 = .ok (.aload_n 0, 1) := by decide +kernel
theorem dX6_go_124 : decode cX6_go 124 = .ok (.dup, 1) := by decide +kernel
theorem dX6_go_125 : decode cX6_go 125 = .ok (.getfield 59, 3) := by decide +kernel
theorem dX6_go_128 : decode cX6_go 128 = .ok (.iconst 1, 1) := by decide +kernel
theorem dX6_go_129 : decode cX6_go 129 = .ok (.iadd, 1) := by decide +kernel
theorem dX6_go_130 : decode cX6_go 130 = .ok (.putfield 59, 3) := by decide +kernel
theorem dX6_go_133 : decode cX6_go 133 = .ok (.iload_n 2, 1) := by decide +kernel
theorem dX6_go_134 : decode cX6_go 134 = .ok (.i2l, 1) := by decide +kernel
theorem dX6_go_135 : decode cX6_go 135 = .ok (.lconst 0, 1) := by decide +kernel
theorem dX6_go_136 : decode cX6_go 136 = .ok (.ldc2_w 66, 3) := by decide +kernel
theorem dX6_go_139 : decode cX6_go 139 = .ok (.invokestatic 49, 3) := by decide +kernel
theorem dX6_go_142 : decode cX6_go 142 = .ok (.ireturn, 1) := by decide +kernel
theorem dX6_go_143 : decode cX6_go 143 = .ok (.aload_n 0, 1) := by decide +kernel
theorem dX6_go_144 : decode cX6_go 144 = .ok (.iload_n 1, 1) := by decide +kernel
theorem dX6_go_145 : decode cX6_go 145 = .ok (.bipush 44, 2) := by decide +kernel
theorem dX6_go_147 : decode cX6_go 147 = .ok (.if_icmp .ne 7, 3) := by decide +kernel
theorem dX6_go_150 : decode cX6_go 150 = .ok (.iconst 0, 1) := by decide +kernel
theorem dX6_go_151 : decode cX6_go 151 = .ok (.goto 4, 3) := by decide +kernel
theorem dX6_go_154 : decode cX6_go 154 = .ok (.iconst 4, 1) := by decide +kernel
theorem dX6_go_155 : decode cX6_go 155 = .ok (.putfield 56, 3) := by decide +kernel
theorem dX6_go_158 : decode cX6_go 158 = .ok (.iload_n 1, 1) := by decide +kernel
theorem dX6_go_159 : decode cX6_go 159 = .ok (.bipush 44, 2) := by decide +kernel
theorem dX6_go_161 : decode cX6_go 161 = .ok (.if_icmp .ne 20, 3) := by decide +kernel
theorem dX6_go_164 : decode cX6_go 164 = .ok (.aload_n 0, 1) := by decide +kernel
theorem dX6_go_165 : decode cX6_go 165 = .ok (.getfield 59, 3) := by decide +kernel
theorem dX6_go_168 : decode cX6_go 168 = .ok (.bipush 6, 2) := by decide +kernel
theorem dX6_go_170 : decode cX6_go 170 = .ok (.if_icmp .ge 7, 3) := by decide +kernel
theorem dX6_go_173 : decode cX6_go 173 = .ok (.iconst 1, 1) := by decide +kernel
theorem dX6_go_174 : decode cX6_go 174 = .ok (.goto 26, 3) := by decide +kernel
theorem dX6_go_177 : decode cX6_go 177 = .ok (.iconst 0, 1) := by decide +kernel
theorem dX6_go_178 : decode cX6_go 178 = .ok (.goto 22, 3) := by decide +kernel
theorem dX6_go_181 : decode cX6_go 181 = .ok (.iload_n 1, 1) := by decide +kernel
theorem dX6_go_182 : decode cX6_go 182 = .ok (.bipush 59, 2) := by decide +kernel
theorem dX6_go_184 : decode cX6_go 184 = .ok (.if_icmp .ne 15, 3) := by decide +kernel
theorem dX6_go_187 : decode cX6_go 187 = .ok (.aload_n 0, 1) := by decide +kernel
theorem dX6_go_188 : decode cX6_go 188 = .ok (.getfield 59, 3) := by decide +kernel
theorem dX6_go_191 : decode cX6_go 191 = .ok (.iconst 1, 1) := by decide +kernel
theorem dX6_go_192 : decode cX6_go 192 = .ok (.if_icmp .le 7, 3) := by decide +kernel
theorem dX6_go_195 : decode cX6_go 195 = .ok (.iconst 1, 1) := by decide +kernel
theorem dX6_go_196 : decode cX6_go 196 = .ok (.goto 4, 3) := by decide +kernel
theorem dX6_go_199 : decode cX6_go 199 = .ok (.iconst 0, 1) := by decide +kernel
theorem dX6_go_200 : decode cX6_go 200 = .ok (.ireturn, 1) := by decide +kernel
theorem dX6_go_201 : decode cX6_go 201 = .ok (.aload_n 0, 1) := by decide +kernel
theorem dX6_go_202 : decode cX6_go 202 = .ok (.iload_n 2, 1) := by decide +kernel
theorem dX6_go_203 : decode cX6_go 203 = .ok (.putfield 68, 3) := by decide +kernel
theorem dX6_go_206 : decode cX6_go 206 = .ok (.iload_n 2, 1) := by decide +kernel
theorem dX6_go_207 : decode cX6_go 207 = .ok (.i2l, 1) := by decide +kernel
theorem dX6_go_208 : decode cX6_go 208 = .ok (.lconst 1, 1) := by decide +kernel
theorem dX6_go_209 : decode cX6_go 209 = .ok (.ldc2_w 71, 3) := by decide +kernel
theorem dX6_go_212 : decode cX6_go 212 = .ok (.invokestatic 49, 3) := by decide +kernel
theorem dX6_go_215 : decode cX6_go 215 = .ok (.ireturn, 1) := by decide +kernel
theorem dX6_go_216 : decode cX6_go 216 = .ok (.iconst 0, 1) := by decide +kernel
theorem dX6_go_217 : decode cX6_go 217 = .ok (.ireturn, 1) := by decide +kernel
theorem dX6_strayDigit_0 : decode cX6_strayDigit 0 = .ok (.iconst (-1), 1) := by decide +kernel
theorem dX6_strayDigit_1 : decode cX6_strayDigit 1 = .ok (.istore_n 1, 1) := by decide +kernel
theorem dX6_strayDigit_2 : decode cX6_strayDigit 2 = .ok (.aload_n 0, 1) := by decide +kernel
theorem dX6_strayDigit_3 : decode cX6_strayDigit 3 = .ok (.getfield 59, 3) := by decide +kernel
theorem dX6_strayDigit_6 : decode cX6_strayDigit 6 = .ok (.iconst 1, 1) := by decide +kernel
theorem dX6_strayDigit_7 : decode cX6_strayDigit 7 = .ok (.isub, 1) := by decide +kernel
theorem dX6_strayDigit_8 : decode cX6_strayDigit 8 = .ok (.istore_n 2, 1) := by decide +kernel
theorem dX6_strayDigit_9 : decode cX6_strayDigit 9 = .ok (.iload_n 2, 1) := by decide +kernel
theorem dX6_strayDigit_10 : decode cX6_strayDigit 10 = .ok (.ifCond .lt 63, 3) := by decide +kernel
theorem dX6_strayDigit_13 : decode cX6_strayDigit 13 = .ok (.aload_n 0, 1) := by decide +kernel
theorem dX6_strayDigit_14 : decode cX6_strayDigit 14 = .ok (.getfield 13, 3) := by decide +kernel
theorem dX6_strayDigit_17 : decode cX6_strayDigit 17 = .ok (.iconst 3, 1) := by decide +kernel
theorem dX6_strayDigit_18 : decode cX6_strayDigit 18 = .ok (.iload_n 2, 1) := by decide +kernel
theorem dX6_strayDigit_19 : decode cX6_strayDigit 19 = .ok (.imul, 1) := by decide +kernel
theorem dX6_strayDigit_20 : decode cX6_strayDigit 20 = .ok (.iconst 2, 1) := by decide +kernel
theorem dX6_strayDigit_21 : decode cX6_strayDigit 21 = .ok (.iadd, 1) := by decide +kernel
theorem dX6_strayDigit_22 : decode cX6_strayDigit 22 = .ok (.iaload, 1) := by decide +kernel
theorem dX6_strayDigit_23 : decode cX6_strayDigit 23 = .ok (.aload_n 0, 1) := by decide +kernel
theorem dX6_strayDigit_24 : decode cX6_strayDigit 24 = .ok (.getfield 59, 3) := by decide +kernel
theorem dX6_strayDigit_27 : decode cX6_strayDigit 27 = .ok (.if_icmp .lt 11, 3) := by decide +kernel
theorem dX6_strayDigit_30 : decode cX6_strayDigit 30 = .ok (.iconst 4, 1) := by decide +kernel
theorem dX6_strayDigit_31 : decode cX6_strayDigit 31 = .ok (.iload_n 2, 1) := by decide +kernel
theorem dX6_strayDigit_32 : decode cX6_strayDigit 32 = .ok (.imul, 1) := by decide +kernel
theorem dX6_strayDigit_33 : decode cX6_strayDigit 33 = .ok (.iconst 2, 1) := by decide +kernel
theorem dX6_strayDigit_34 : decode cX6_strayDigit 34 = .ok (.iadd, 1) := by decide +kernel
theorem dX6_strayDigit_35 : decode cX6_strayDigit 35 = .ok (.goto 4, 3) := by decide +kernel
theorem dX6_strayDigit_38 : decode cX6_strayDigit 38 = .ok (.iload_n 1, 1) := by decide +kernel
theorem dX6_strayDigit_39 : decode cX6_strayDigit 39 = .ok (.istore_n 1, 1) := by decide +kernel
theorem dX6_strayDigit_40 : decode cX6_strayDigit 40 = .ok (.aload_n 0, 1) := by decide +kernel
theorem dX6_strayDigit_41 : decode cX6_strayDigit 41 = .ok (.getfield 13, 3) := by decide +kernel
theorem dX6_strayDigit_44 : decode cX6_strayDigit 44 = .ok (.iconst 3, 1) := by decide +kernel
theorem dX6_strayDigit_45 : decode cX6_strayDigit 45 = .ok (.iload_n 2, 1) := by decide +kernel
theorem dX6_strayDigit_46 : decode cX6_strayDigit 46 = .ok (.imul, 1) := by decide +kernel
theorem dX6_strayDigit_47 : decode cX6_strayDigit 47 = .ok (.iconst 1, 1) := by decide +kernel
theorem dX6_strayDigit_48 : decode cX6_strayDigit 48 = .ok (.iadd, 1) := by decide +kernel
theorem dX6_strayDigit_49 : decode cX6_strayDigit 49 = .ok (.iaload, 1) := by decide +kernel
theorem dX6_strayDigit_50 : decode cX6_strayDigit 50 = .ok (.aload_n 0, 1) := by decide +kernel
theorem dX6_strayDigit_51 : decode cX6_strayDigit 51 = .ok (.getfield 59, 3) := by decide +kernel
theorem dX6_strayDigit_54 : decode cX6_strayDigit 54 = .ok (.if_icmp .lt 11, 3) := by decide +kernel
theorem dX6_strayDigit_57 : decode cX6_strayDigit 57 = .ok (.iconst 4, 1) := by decide +kernel
theorem dX6_strayDigit_58 : decode cX6_strayDigit 58 = .ok (.iload_n 2, 1) := by decide +kernel
theorem dX6_strayDigit_59 : decode cX6_strayDigit 59 = .ok (.imul, 1) := by decide +kernel
theorem dX6_strayDigit_60 : decode cX6_strayDigit 60 = .ok (.iconst 1, 1) := by decide +kernel
theorem dX6_strayDigit_61 : decode cX6_strayDigit 61 = .ok (.iadd, 1) := by decide +kernel
theorem dX6_strayDigit_62 : decode cX6_strayDigit 62 = .ok (.goto 4, 3) := by decide +kernel
theorem dX6_strayDigit_65 : decode cX6_strayDigit 65 = .ok (.iload_n 1, 1) := by decide +kernel
theorem dX6_strayDigit_66 : decode cX6_strayDigit 66 = .ok (.istore_n 1, 1) := by decide +kernel
theorem dX6_strayDigit_67 : decode cX6_strayDigit 67 = .ok (.iinc 2 (-1), 3) := by decide +kernel
theorem dX6_strayDigit_70 : decode cX6_strayDigit 70 = .ok (.goto (-61), 3) := by decide +kernel
theorem dX6_strayDigit_73 : decode cX6_strayDigit 73 = .ok (.iload_n 1, 1) := by decide +kernel
theorem dX6_strayDigit_74 : decode cX6_strayDigit 74 = .ok (.ireturn, 1) := by decide +kernel
theorem dX6_faultOf_0 : decode cX6_faultOf 0 = .ok (.aload_n 0, 1) := by decide +kernel
theorem dX6_faultOf_1 : decode cX6_faultOf 1 = .ok (.iconst 0, 1) := by decide +kernel
theorem dX6_faultOf_2 : decode cX6_faultOf 2 = .ok (.putfield 59, 3) := by decide +kernel
theorem dX6_faultOf_5 : decode cX6_faultOf 5 = .ok (.aload_n 0, 1) := by decide +kernel
theorem dX6_faultOf_6 : decode cX6_faultOf 6 = .ok (.iconst 0, 1) := by decide +kernel
theorem dX6_faultOf_7 : decode cX6_faultOf 7 = .ok (.putfield 56, 3) := by decide +kernel
theorem dX6_faultOf_10 : decode cX6_faultOf 10 = .ok (.iconst 0, 1) := by decide +kernel
theorem dX6_faultOf_11 : decode cX6_faultOf 11 = .ok (.istore_n 1, 1) := by decide +kernel
theorem dX6_faultOf_12 : decode cX6_faultOf 12 = .ok (.iload_n 1, 1) := by decide +kernel
theorem dX6_faultOf_13 : decode cX6_faultOf 13 = .ok (.aload_n 0, 1) := by decide +kernel
theorem dX6_faultOf_14 : decode cX6_faultOf 14 = .ok (.getfield 53, 3) := by decide +kernel
theorem dX6_faultOf_17 : decode cX6_faultOf 17 = .ok (.if_icmp .ge 22, 3) := by decide +kernel
theorem dX6_faultOf_20 : decode cX6_faultOf 20 = .ok (.aload_n 0, 1) := by decide +kernel
theorem dX6_faultOf_21 : decode cX6_faultOf 21 = .ok (.aload_n 0, 1) := by decide +kernel
theorem dX6_faultOf_22 : decode cX6_faultOf 22 = .ok (.getfield 7, 3) := by decide +kernel
theorem dX6_faultOf_25 : decode cX6_faultOf 25 = .ok (.iload_n 1, 1) := by decide +kernel
theorem dX6_faultOf_26 : decode cX6_faultOf 26 = .ok (.iaload, 1) := by decide +kernel
theorem dX6_faultOf_27 : decode cX6_faultOf 27 = .ok (.invokevirtual 73, 3) := by decide +kernel
theorem dX6_faultOf_30 : decode cX6_faultOf 30 = .ok (.ifCond .eq 9, 3) := by decide +kernel
theorem dX6_faultOf_33 : decode cX6_faultOf 33 = .ok (.iinc 1 1, 3) := by decide +kernel
theorem dX6_faultOf_36 : decode cX6_faultOf 36 = .ok (.goto (-24), 3) := by decide +kernel
theorem dX6_faultOf_39 : decode cX6_faultOf 39 = .ok (.iload_n 1, 1) := by decide +kernel
theorem dX6_faultOf_40 : decode cX6_faultOf 40 = .ok (.aload_n 0, 1) := by decide +kernel
theorem dX6_faultOf_41 : decode cX6_faultOf 41 = .ok (.getfield 53, 3) := by decide +kernel
theorem dX6_faultOf_44 : decode cX6_faultOf 44 = .ok (.if_icmp .ne 15, 3) := by decide +kernel
theorem dX6_faultOf_47 : decode cX6_faultOf 47 = .ok (.aload_n 0, 1) := by decide +kernel
theorem dX6_faultOf_48 : decode cX6_faultOf 48 = .ok (.getfield 56, 3) := by decide +kernel
theorem dX6_faultOf_51 : decode cX6_faultOf 51 = .ok (.iconst 5, 1) := by decide +kernel
theorem dX6_faultOf_52 : decode cX6_faultOf 52 = .ok (.if_icmp .ne 7, 3) := by decide +kernel
theorem dX6_faultOf_55 : decode cX6_faultOf 55 = .ok (.iconst 1, 1) := by decide +kernel
theorem dX6_faultOf_56 : decode cX6_faultOf 56 = .ok (.goto 4, 3) := by decide +kernel
theorem dX6_faultOf_59 : decode cX6_faultOf 59 = .ok (.iconst 0, 1) := by decide +kernel
theorem dX6_faultOf_60 : decode cX6_faultOf 60 = .ok (.istore_n 2, 1) := by decide +kernel
theorem dX6_faultOf_61 : decode cX6_faultOf 61 = .ok (.iload_n 2, 1) := by decide +kernel
theorem dX6_faultOf_62 : decode cX6_faultOf 62 = .ok (.ifCond .eq 18, 3) := by decide +kernel
theorem dX6_faultOf_65 : decode cX6_faultOf 65 = .ok (.aload_n 0, 1) := by decide +kernel
theorem dX6_faultOf_66 : decode cX6_faultOf 66 = .ok (.invokevirtual 77, 3) := by decide +kernel
theorem dX6_faultOf_69 : decode cX6_faultOf 69 = .ok (.iconst (-1), 1) := by decide +kernel
theorem dX6_faultOf_70 : decode cX6_faultOf 70 = .ok (.if_icmp .eq 10, 3) := by decide +kernel
theorem dX6_faultOf_73 : decode cX6_faultOf 73 = .ok (.aload_n 0, 1) := by decide +kernel
theorem dX6_faultOf_74 : decode cX6_faultOf 74 = .ok (.invokevirtual 77, 3) := by decide +kernel
theorem dX6_faultOf_77 : decode cX6_faultOf 77 = .ok (.goto 4, 3) := by decide +kernel
theorem dX6_faultOf_80 : decode cX6_faultOf 80 = .ok (.iload_n 1, 1) := by decide +kernel
theorem dX6_faultOf_81 : decode cX6_faultOf 81 = .ok (.ireturn, 1) := by decide +kernel
theorem dX6_fault_0 : decode cX6_fault 0 = .ok (.aload_n 0, 1) := by decide +kernel
theorem dX6_fault_1 : decode cX6_fault 1 = .ok (.invokevirtual 81, 3) := by decide +kernel
theorem dX6_fault_4 : decode cX6_fault 4 = .ok (.ireturn, 1) := by decide +kernel
theorem dX6_mine_0 : decode cX6_mine 0 = .ok (.aload_n 0, 1) := by decide +kernel
theorem dX6_mine_1 : decode cX6_mine 1 = .ok (.invokevirtual 81, 3) := by decide +kernel
theorem dX6_mine_4 : decode cX6_mine 4 = .ok (.aload_n 0, 1) := by decide +kernel
theorem dX6_mine_5 : decode cX6_mine 5 = .ok (.getfield 53, 3) := by decide +kernel
theorem dX6_mine_8 : decode cX6_mine 8 = .ok (.if_icmp .lt 11, 3) := by decide +kernel
theorem dX6_mine_11 : decode cX6_mine 11 = .ok (.aload_n 0, 1) := by decide +kernel
theorem dX6_mine_12 : decode cX6_mine 12 = .ok (.getfield 56, 3) := by decide +kernel
theorem dX6_mine_15 : decode cX6_mine 15 = .ok (.iconst 5, 1) := by decide +kernel
theorem dX6_mine_16 : decode cX6_mine 16 = .ok (.if_icmp .eq 6, 3) := by decide +kernel
theorem dX6_mine_19 : decode cX6_mine 19 = .ok (.bipush (-103), 2) := by decide +kernel
theorem dX6_mine_21 : decode cX6_mine 21 = .ok (.ireturn, 1) := by decide +kernel
theorem dX6_mine_22 : decode cX6_mine 22 = .ok (.aload_n 0, 1) := by decide +kernel
theorem dX6_mine_23 : decode cX6_mine 23 = .ok (.aload_n 0, 1) := by decide +kernel
theorem dX6_mine_24 : decode cX6_mine 24 = .ok (.getfield 59, 3) := by decide +kernel
theorem dX6_mine_27 : decode cX6_mine 27 = .ok (.putfield 84, 3) := by decide +kernel
theorem dX6_mine_30 : decode cX6_mine 30 = .ok (.iconst 0, 1) := by decide +kernel
theorem dX6_mine_31 : decode cX6_mine 31 = .ok (.istore_n 1, 1) := by decide +kernel
theorem dX6_mine_32 : decode cX6_mine 32 = .ok (.iload_n 1, 1) := by decide +kernel
theorem dX6_mine_33 : decode cX6_mine 33 = .ok (.aload_n 0, 1) := by decide +kernel
theorem dX6_mine_34 : decode cX6_mine 34 = .ok (.getfield 84, 3) := by decide +kernel
theorem dX6_mine_37 : decode cX6_mine 37 = .ok (.if_icmp .ge 83, 3) := by decide +kernel
theorem dX6_mine_40 : decode cX6_mine 40 = .ok (.aload_n 0, 1) := by decide +kernel
theorem dX6_mine_41 : decode cX6_mine 41 = .ok (.getfield 13, 3) := by decide +kernel
theorem dX6_mine_44 : decode cX6_mine 44 = .ok (.iconst 3, 1) := by decide +kernel
theorem dX6_mine_45 : decode cX6_mine 45 = .ok (.iload_n 1, 1) := by decide +kernel
theorem dX6_mine_46 : decode cX6_mine 46 = .ok (.imul, 1) := by decide +kernel
theorem dX6_mine_47 : decode cX6_mine 47 = .ok (.iaload, 1) := by decide +kernel
theorem dX6_mine_48 : decode cX6_mine 48 = .ok (.iconst 2, 1) := by decide +kernel
theorem dX6_mine_49 : decode cX6_mine 49 = .ok (.if_icmp .ne 7, 3) := by decide +kernel
theorem dX6_mine_52 : decode cX6_mine 52 = .ok (.iconst 1, 1) := by decide +kernel
theorem dX6_mine_53 : decode cX6_mine 53 = .ok (.goto 4, 3) := by decide +kernel
theorem dX6_mine_56 : decode cX6_mine 56 = .ok (.iconst 0, 1) := by decide +kernel
theorem dX6_mine_57 : decode cX6_mine 57 = .ok (.istore_n 2, 1) := by decide +kernel
theorem dX6_mine_58 : decode cX6_mine 58 = .ok (.aload_n 0, 1) := by decide +kernel
theorem dX6_mine_59 : decode cX6_mine 59 = .ok (.getfield 16, 3) := by decide +kernel
theorem dX6_mine_62 : decode cX6_mine 62 = .ok (.iload_n 1, 1) := by decide +kernel
theorem dX6_mine_63 : decode cX6_mine 63 = .ok (.aload_n 0, 1) := by decide +kernel
theorem dX6_mine_64 : decode cX6_mine 64 = .ok (.getfield 13, 3) := by decide +kernel
theorem dX6_mine_67 : decode cX6_mine 67 = .ok (.iconst 3, 1) := by decide +kernel
theorem dX6_mine_68 : decode cX6_mine 68 = .ok (.iload_n 1, 1) := by decide +kernel
theorem dX6_mine_69 : decode cX6_mine 69 = .ok (.imul, 1) := by decide +kernel
theorem dX6_mine_70 : decode cX6_mine 70 = .ok (.iaload, 1) := by decide +kernel
theorem dX6_mine_71 : decode cX6_mine 71 = .ok (.iastore, 1) := by decide +kernel
theorem dX6_mine_72 : decode cX6_mine 72 = .ok (.aload_n 0, 1) := by decide +kernel
theorem dX6_mine_73 : decode cX6_mine 73 = .ok (.getfield 19, 3) := by decide +kernel
theorem dX6_mine_76 : decode cX6_mine 76 = .ok (.iconst 2, 1) := by decide +kernel
theorem dX6_mine_77 : decode cX6_mine 77 = .ok (.iload_n 1, 1) := by decide +kernel
theorem dX6_mine_78 : decode cX6_mine 78 = .ok (.imul, 1) := by decide +kernel
theorem dX6_mine_79 : decode cX6_mine 79 = .ok (.iload_n 2, 1) := by decide +kernel
theorem dX6_mine_80 : decode cX6_mine 80 = .ok (.iadd, 1) := by decide +kernel
theorem dX6_mine_81 : decode cX6_mine 81 = .ok (.aload_n 0, 1) := by decide +kernel
theorem dX6_mine_82 : decode cX6_mine 82 = .ok (.getfield 13, 3) := by decide +kernel
