theorem dX5_convict_20 : decode cX5_convict 20 = .ok (.ifCond .lt 10, 3) := by decide +kernel
theorem dX5_convict_23 : decode cX5_convict 23 = .ok (.iload 4, 2) := by decide +kernel
theorem dX5_convict_25 : decode cX5_convict 25 = .ok (.bipush 63, 2) := by decide +kernel
theorem dX5_convict_27 : decode cX5_convict 27 = .ok (.if_icmp .le 6, 3) := by decide +kernel
theorem dX5_convict_30 : decode cX5_convict 30 = .ok (.bipush (-102), 2) := by decide +kernel
theorem dX5_convict_32 : decode cX5_convict 32 = .ok (.ireturn, 1) := by decide +kernel
theorem dX5_convict_33 : decode cX5_convict 33 = .ok (.aload_n 0, 1) := by decide +kernel
theorem dX5_convict_34 : decode cX5_convict 34 = .ok (.iload_n 2, 1) := by decide +kernel
theorem dX5_convict_35 : decode cX5_convict 35 = .ok (.invokevirtual 88, 3) := by decide +kernel
theorem dX5_convict_38 : decode cX5_convict 38 = .ok (.ifCond .ne 6, 3) := by decide +kernel
theorem dX5_convict_41 : decode cX5_convict 41 = .ok (.bipush (-101), 2) := by decide +kernel
theorem dX5_convict_43 : decode cX5_convict 43 = .ok (.ireturn, 1) := by decide +kernel
theorem dX5_convict_44 : decode cX5_convict 44 = .ok (.aload_n 0, 1) := by decide +kernel
theorem dX5_convict_45 : decode cX5_convict 45 = .ok (.getfield 16, 3) := by decide +kernel
theorem dX5_convict_48 : decode cX5_convict 48 = .ok (.getfield 104, 3) := by decide +kernel
theorem dX5_convict_51 : decode cX5_convict 51 = .ok (.iconst 4, 1) := by decide +kernel
theorem dX5_convict_52 : decode cX5_convict 52 = .ok (.if_icmp .lt 6, 3) := by decide +kernel
theorem dX5_convict_55 : decode cX5_convict 55 = .ok (.bipush (-104), 2) := by decide +kernel
theorem dX5_convict_57 : decode cX5_convict 57 = .ok (.ireturn, 1) := by decide +kernel
theorem dX5_convict_58 : decode cX5_convict 58 = .ok (.aload_n 0, 1) := by decide +kernel
theorem dX5_convict_59 : decode cX5_convict 59 = .ok (.getfield 16, 3) := by decide +kernel
theorem dX5_convict_62 : decode cX5_convict 62 = .ok (.getfield 104, 3) := by decide +kernel
theorem dX5_convict_65 : decode cX5_convict 65 = .ok (.istore 5, 2) := by decide +kernel
theorem dX5_convict_67 : decode cX5_convict 67 = .ok (.aload_n 0, 1) := by decide +kernel
theorem dX5_convict_68 : decode cX5_convict 68 = .ok (.getfield 16, 3) := by decide +kernel
theorem dX5_convict_71 : decode cX5_convict 71 = .ok (.getfield 107, 3) := by decide +kernel
theorem dX5_convict_74 : decode cX5_convict 74 = .ok (.iload 5, 2) := by decide +kernel
theorem dX5_convict_76 : decode cX5_convict 76 = .ok (.aaload, 1) := by decide +kernel
theorem dX5_convict_77 : decode cX5_convict 77 = .ok (.iload_n 1, 1) := by decide +kernel
theorem dX5_convict_78 : decode cX5_convict 78 = .ok (.iload_n 2, 1) := by decide +kernel
theorem dX5_convict_79 : decode cX5_convict 79 = .ok (.iload_n 3, 1) := by decide +kernel
theorem dX5_convict_80 : decode cX5_convict 80 = .ok (.iload 4, 2) := by decide +kernel
theorem dX5_convict_82 : decode cX5_convict 82 = .ok (.invokevirtual 111, 3) := by decide +kernel
theorem dX5_convict_85 : decode cX5_convict 85 = .ok (.aload_n 0, 1) := by decide +kernel
theorem dX5_convict_86 : decode cX5_convict 86 = .ok (.getfield 16, 3) := by decide +kernel
theorem dX5_convict_89 : decode cX5_convict 89 = .ok (.dup, 1) := by decide +kernel
theorem dX5_convict_90 : decode cX5_convict 90 = .ok (.getfield 104, 3) := by decide +kernel
theorem dX5_convict_93 : decode cX5_convict 93 = .ok (.iconst 1, 1) := by decide +kernel
theorem dX5_convict_94 : decode cX5_convict 94 = .ok (.iadd, 1) := by decide +kernel
theorem dX5_convict_95 : decode cX5_convict 95 = .ok (.putfield 104, 3) := by decide +kernel
theorem dX5_convict_98 : decode cX5_convict 98 = .ok (.iload 5, 2) := by decide +kernel
theorem dX5_convict_100 : decode cX5_convict 100 = .ok (.ireturn, 1) := by decide +kernel
theorem dX5_about_0 : decode cX5_about 0 = .ok (.aload_n 0, 1) := by decide +kernel
theorem dX5_about_1 : decode cX5_about 1 = .ok (.iload_n 1, 1) := by decide +kernel
theorem dX5_about_2 : decode cX5_about 2 = .ok (.invokevirtual 117, 3) := by decide +kernel
theorem dX5_about_5 : decode cX5_about 5 = .ok (.ifCond .ne 6, 3) := by decide +kernel
theorem dX5_about_8 : decode cX5_about 8 = .ok (.bipush (-101), 2) := by decide +kernel
theorem dX5_about_10 : decode cX5_about 10 = .ok (.ireturn, 1) := by decide +kernel
theorem dX5_about_11 : decode cX5_about 11 = .ok (.iload_n 2, 1) := by decide +kernel
theorem dX5_about_12 : decode cX5_about 12 = .ok (.ifCond .lt 9, 3) := by decide +kernel
theorem dX5_about_15 : decode cX5_about 15 = .ok (.iload_n 2, 1) := by decide +kernel
theorem dX5_about_16 : decode cX5_about 16 = .ok (.bipush 8, 2) := by decide +kernel
theorem dX5_about_18 : decode cX5_about 18 = .ok (.if_icmp .le 6, 3) := by decide +kernel
theorem dX5_about_21 : decode cX5_about 21 = .ok (.bipush (-102), 2) := by decide +kernel
theorem dX5_about_23 : decode cX5_about 23 = .ok (.ireturn, 1) := by decide +kernel
theorem dX5_about_24 : decode cX5_about 24 = .ok (.aload_n 0, 1) := by decide +kernel
theorem dX5_about_25 : decode cX5_about 25 = .ok (.getfield 16, 3) := by decide +kernel
theorem dX5_about_28 : decode cX5_about 28 = .ok (.getfield 107, 3) := by decide +kernel
theorem dX5_about_31 : decode cX5_about 31 = .ok (.iload_n 1, 1) := by decide +kernel
theorem dX5_about_32 : decode cX5_about 32 = .ok (.aaload, 1) := by decide +kernel
theorem dX5_about_33 : decode cX5_about 33 = .ok (.astore_n 3, 1) := by decide +kernel
theorem dX5_about_34 : decode cX5_about 34 = .ok (.iload_n 2, 1) := by decide +kernel
theorem dX5_about_35 : decode cX5_about 35 = .ok (.tableswitch 93 0 7 #[45, 50, 55, 60, 65, 74, 79, 84], 45) := by decide +kernel
theorem dX5_about_80 : decode cX5_about 80 = .ok (.aload_n 3, 1) := by decide +kernel
theorem dX5_about_81 : decode cX5_about 81 = .ok (.getfield 120, 3) := by decide +kernel
theorem dX5_about_84 : decode cX5_about 84 = .ok (.ireturn, 1) := by decide +kernel
theorem dX5_about_85 : decode cX5_about 85 = .ok (.aload_n 3, 1) := by decide +kernel
theorem dX5_about_86 : decode cX5_about 86 = .ok (.getfield 123, 3) := by decide +kernel
theorem dX5_about_89 : decode cX5_about 89 = .ok (.ireturn, 1) := by decide +kernel
theorem dX5_about_90 : decode cX5_about 90 = .ok (.aload_n 3, 1) := by decide +kernel
theorem dX5_about_91 : decode cX5_about 91 = .ok (.getfield 126, 3) := by decide +kernel
theorem dX5_about_94 : decode cX5_about 94 = .ok (.ireturn, 1) := by decide +kernel
theorem dX5_about_95 : decode cX5_about 95 = .ok (.aload_n 3, 1) := by decide +kernel
theorem dX5_about_96 : decode cX5_about 96 = .ok (.getfield 129, 3) := by decide +kernel
theorem dX5_about_99 : decode cX5_about 99 = .ok (.ireturn, 1) := by decide +kernel
theorem dX5_about_100 : decode cX5_about 100 = .ok (.aload_n 0, 1) := by decide +kernel
theorem dX5_about_101 : decode cX5_about 101 = .ok (.getfield 16, 3) := by decide +kernel
theorem dX5_about_104 : decode cX5_about 104 = .ok (.aload_n 3, 1) := by decide +kernel
theorem dX5_about_105 : decode cX5_about 105 = .ok (.invokevirtual 132, 3) := by decide +kernel
theorem dX5_about_108 : decode cX5_about 108 = .ok (.ireturn, 1) := by decide +kernel
theorem dX5_about_109 : decode cX5_about 109 = .ok (.aload_n 3, 1) := by decide +kernel
theorem dX5_about_110 : decode cX5_about 110 = .ok (.getfield 136, 3) := by decide +kernel
theorem dX5_about_113 : decode cX5_about 113 = .ok (.ireturn, 1) := by decide +kernel
theorem dX5_about_114 : decode cX5_about 114 = .ok (.aload_n 3, 1) := by decide +kernel
theorem dX5_about_115 : decode cX5_about 115 = .ok (.getfield 139, 3) := by decide +kernel
theorem dX5_about_118 : decode cX5_about 118 = .ok (.ireturn, 1) := by decide +kernel
theorem dX5_about_119 : decode cX5_about 119 = .ok (.aload_n 0, 1) := by decide +kernel
theorem dX5_about_120 : decode cX5_about 120 = .ok (.getfield 16, 3) := by decide +kernel
theorem dX5_about_123 : decode cX5_about 123 = .ok (.aload_n 3, 1) := by decide +kernel
theorem dX5_about_124 : decode cX5_about 124 = .ok (.invokevirtual 142, 3) := by decide +kernel
theorem dX5_about_127 : decode cX5_about 127 = .ok (.ireturn, 1) := by decide +kernel
theorem dX5_about_128 : decode cX5_about 128 = .ok (.aload_n 0, 1) := by decide +kernel
theorem dX5_about_129 : decode cX5_about 129 = .ok (.getfield 16, 3) := by decide +kernel
theorem dX5_about_132 : decode cX5_about 132 = .ok (.aload_n 3, 1) := by decide +kernel
theorem dX5_about_133 : decode cX5_about 133 = .ok (.invokevirtual 145, 3) := by decide +kernel
theorem dX5_about_136 : decode cX5_about 136 = .ok (.ireturn, 1) := by decide +kernel
theorem dX5_as_0 : decode cX5_as 0 = .ok (.aload_n 0, 1) := by decide +kernel
theorem dX5_as_1 : decode cX5_as 1 = .ok (.iload_n 1, 1) := by decide +kernel
theorem dX5_as_2 : decode cX5_as 2 = .ok (.invokevirtual 117, 3) := by decide +kernel
theorem dX5_as_5 : decode cX5_as 5 = .ok (.ifCond .ne 6, 3) := by decide +kernel
theorem dX5_as_8 : decode cX5_as 8 = .ok (.bipush (-101), 2) := by decide +kernel
theorem dX5_as_10 : decode cX5_as 10 = .ok (.ireturn, 1) := by decide +kernel
theorem dX5_as_11 : decode cX5_as 11 = .ok (.iload_n 2, 1) := by decide +kernel
theorem dX5_as_12 : decode cX5_as 12 = .ok (.invokestatic 101, 3) := by decide +kernel
theorem dX5_as_15 : decode cX5_as 15 = .ok (.ifCond .ne 6, 3) := by decide +kernel
theorem dX5_as_18 : decode cX5_as 18 = .ok (.bipush (-102), 2) := by decide +kernel
theorem dX5_as_20 : decode cX5_as 20 = .ok (.ireturn, 1) := by decide +kernel
theorem dX5_as_21 : decode cX5_as 21 = .ok (.aload_n 0, 1) := by decide +kernel
theorem dX5_as_22 : decode cX5_as 22 = .ok (.getfield 16, 3) := by decide +kernel
theorem dX5_as_25 : decode cX5_as 25 = .ok (.getfield 107, 3) := by decide +kernel
theorem dX5_as_28 : decode cX5_as 28 = .ok (.iload_n 1, 1) := by decide +kernel
theorem dX5_as_29 : decode cX5_as 29 = .ok (.aaload, 1) := by decide +kernel
theorem dX5_as_30 : decode cX5_as 30 = .ok (.iload_n 2, 1) := by decide +kernel
theorem dX5_as_31 : decode cX5_as 31 = .ok (.invokevirtual 148, 3) := by decide +kernel
theorem dX5_as_34 : decode cX5_as 34 = .ok (.ifCond .eq 7, 3) := by decide +kernel
theorem dX5_as_37 : decode cX5_as 37 = .ok (.iload_n 1, 1) := by decide +kernel
theorem dX5_as_38 : decode cX5_as 38 = .ok (.goto 4, 3) := by decide +kernel
theorem dX5_as_41 : decode cX5_as 41 = .ok (.iconst (-1), 1) := by decide +kernel
theorem dX5_as_42 : decode cX5_as 42 = .ok (.ireturn, 1) := by decide +kernel
theorem dX5_say_0 : decode cX5_say 0 = .ok (.aload_n 0, 1) := by decide +kernel
theorem dX5_say_1 : decode cX5_say 1 = .ok (.iload_n 1, 1) := by decide +kernel
theorem dX5_say_2 : decode cX5_say 2 = .ok (.invokevirtual 117, 3) := by decide +kernel
theorem dX5_say_5 : decode cX5_say 5 = .ok (.ifCond .eq 10, 3) := by decide +kernel
theorem dX5_say_8 : decode cX5_say 8 = .ok (.iload_n 2, 1) := by decide +kernel
theorem dX5_say_9 : decode cX5_say 9 = .ok (.invokestatic 151, 3) := by decide +kernel
theorem dX5_say_12 : decode cX5_say 12 = .ok (.ifCond .ne 6, 3) := by decide +kernel
theorem dX5_say_15 : decode cX5_say 15 = .ok (.bipush (-101), 2) := by decide +kernel
theorem dX5_say_17 : decode cX5_say 17 = .ok (.ireturn, 1) := by decide +kernel
theorem dX5_say_18 : decode cX5_say 18 = .ok (.aload_n 0, 1) := by decide +kernel
theorem dX5_say_19 : decode cX5_say 19 = .ok (.getfield 16, 3) := by decide +kernel
theorem dX5_say_22 : decode cX5_say 22 = .ok (.getfield 107, 3) := by decide +kernel
theorem dX5_say_25 : decode cX5_say 25 = .ok (.iload_n 1, 1) := by decide +kernel
theorem dX5_say_26 : decode cX5_say 26 = .ok (.aaload, 1) := by decide +kernel
theorem dX5_say_27 : decode cX5_say 27 = .ok (.astore_n 3, 1) := by decide +kernel
theorem dX5_say_28 : decode cX5_say 28 = .ok (.aload_n 3, 1) := by decide +kernel
theorem dX5_say_29 : decode cX5_say 29 = .ok (.invokevirtual 154, 3) := by decide +kernel
theorem dX5_say_32 : decode cX5_say 32 = .ok (.ifCond .ne 18, 3) := by decide +kernel
theorem dX5_say_35 : decode cX5_say 35 = .ok (.aload_n 3, 1) := by decide +kernel
theorem dX5_say_36 : decode cX5_say 36 = .ok (.getfield 136, 3) := by decide +kernel
theorem dX5_say_39 : decode cX5_say 39 = .ok (.ifCond .le 11, 3) := by decide +kernel
theorem dX5_say_42 : decode cX5_say 42 = .ok (.aload_n 3, 1) := by decide +kernel
theorem dX5_say_43 : decode cX5_say 43 = .ok (.iload_n 2, 1) := by decide +kernel
theorem dX5_say_44 : decode cX5_say 44 = .ok (.invokevirtual 158, 3) := by decide +kernel
theorem dX5_say_47 : decode cX5_say 47 = .ok (.ifCond .ne 6, 3) := by decide +kernel
theorem dX5_say_50 : decode cX5_say 50 = .ok (.bipush (-103), 2) := by decide +kernel
theorem dX5_say_52 : decode cX5_say 52 = .ok (.ireturn, 1) := by decide +kernel
theorem dX5_say_53 : decode cX5_say 53 = .ok (.aload_n 0, 1) := by decide +kernel
theorem dX5_say_54 : decode cX5_say 54 = .ok (.getfield 16, 3) := by decide +kernel
theorem dX5_say_57 : decode cX5_say 57 = .ok (.aload_n 3, 1) := by decide +kernel
theorem dX5_say_58 : decode cX5_say 58 = .ok (.iload_n 2, 1) := by decide +kernel
theorem dX5_say_59 : decode cX5_say 59 = .ok (.invokevirtual 161, 3) := by decide +kernel
theorem dX5_say_62 : decode cX5_say 62 = .ok (.ifCond .eq 7, 3) := by decide +kernel
theorem dX5_say_65 : decode cX5_say 65 = .ok (.iconst 1, 1) := by decide +kernel
theorem dX5_say_66 : decode cX5_say 66 = .ok (.goto 4, 3) := by decide +kernel
theorem dX5_say_69 : decode cX5_say 69 = .ok (.iconst 0, 1) := by decide +kernel
theorem dX5_say_70 : decode cX5_say 70 = .ok (.ireturn, 1) := by decide +kernel
theorem dX5_learn_0 : decode cX5_learn 0 = .ok (.aload_n 0, 1) := by decide +kernel
theorem dX5_learn_1 : decode cX5_learn 1 = .ok (.iload_n 1, 1) := by decide +kernel
theorem dX5_learn_2 : decode cX5_learn 2 = .ok (.invokevirtual 117, 3) := by decide +kernel
theorem dX5_learn_5 : decode cX5_learn 5 = .ok (.ifCond .eq 10, 3) := by decide +kernel
theorem dX5_learn_8 : decode cX5_learn 8 = .ok (.iload_n 2, 1) := by decide +kernel
theorem dX5_learn_9 : decode cX5_learn 9 = .ok (.invokestatic 151, 3) := by decide +kernel
theorem dX5_learn_12 : decode cX5_learn 12 = .ok (.ifCond .ne 6, 3) := by decide +kernel
theorem dX5_learn_15 : decode cX5_learn 15 = .ok (.bipush (-101), 2) := by decide +kernel
theorem dX5_learn_17 : decode cX5_learn 17 = .ok (.ireturn, 1) := by decide +kernel
theorem dX5_learn_18 : decode cX5_learn 18 = .ok (.aload_n 0, 1) := by decide +kernel
theorem dX5_learn_19 : decode cX5_learn 19 = .ok (.getfield 16, 3) := by decide +kernel
theorem dX5_learn_22 : decode cX5_learn 22 = .ok (.getfield 107, 3) := by decide +kernel
theorem dX5_learn_25 : decode cX5_learn 25 = .ok (.iload_n 1, 1) := by decide +kernel
theorem dX5_learn_26 : decode cX5_learn 26 = .ok (.aaload, 1) := by decide +kernel
theorem dX5_learn_27 : decode cX5_learn 27 = .ok (.astore_n 3, 1) := by decide +kernel
theorem dX5_learn_28 : decode cX5_learn 28 = .ok (.aload_n 3, 1) := by decide +kernel
theorem dX5_learn_29 : decode cX5_learn 29 = .ok (.iload_n 2, 1) := by decide +kernel
theorem dX5_learn_30 : decode cX5_learn 30 = .ok (.invokevirtual 158, 3) := by decide +kernel
theorem dX5_learn_33 : decode cX5_learn 33 = .ok (.ifCond .eq 5, 3) := by decide +kernel
theorem dX5_learn_36 : decode cX5_learn 36 = .ok (.iconst 0, 1) := by decide +kernel
theorem dX5_learn_37 : decode cX5_learn 37 = .ok (.ireturn, 1) := by decide +kernel
theorem dX5_learn_38 : decode cX5_learn 38 = .ok (.aload_n 3, 1) := by decide +kernel
theorem dX5_learn_39 : decode cX5_learn 39 = .ok (.dup, 1) := by decide +kernel
theorem dX5_learn_40 : decode cX5_learn 40 = .ok (.getfield 129, 3) := by decide +kernel
theorem dX5_learn_43 : decode cX5_learn 43 = .ok (.iconst 1, 1) := by decide +kernel
theorem dX5_learn_44 : decode cX5_learn 44 = .ok (.iload_n 2, 1) := by decide +kernel
theorem dX5_learn_45 : decode cX5_learn 45 = .ok (.ishl, 1) := by decide +kernel
theorem dX5_learn_46 : decode cX5_learn 46 = .ok (.ior, 1) := by decide +kernel
theorem dX5_learn_47 : decode cX5_learn 47 = .ok (.putfield 129, 3) := by decide +kernel
theorem dX5_learn_50 : decode cX5_learn 50 = .ok (.iconst 1, 1) := by decide +kernel
theorem dX5_learn_51 : decode cX5_learn 51 = .ok (.ireturn, 1) := by decide +kernel
theorem dX5_night_0 : decode cX5_night 0 = .ok (.aload_n 0, 1) := by decide +kernel
theorem dX5_night_1 : decode cX5_night 1 = .ok (.getfield 75, 3) := by decide +kernel
theorem dX5_night_4 : decode cX5_night 4 = .ok (.ifCond .ne 6, 3) := by decide +kernel
theorem dX5_night_7 : decode cX5_night 7 = .ok (.bipush (-103), 2) := by decide +kernel
theorem dX5_night_9 : decode cX5_night 9 = .ok (.ireturn, 1) := by decide +kernel
theorem dX5_night_10 : decode cX5_night 10 = .ok (.aload_n 0, 1) := by decide +kernel
theorem dX5_night_11 : decode cX5_night 11 = .ok (.getfield 16, 3) := by decide +kernel
theorem dX5_night_14 : decode cX5_night 14 = .ok (.invokevirtual 165, 3) := by decide +kernel
theorem dX5_night_17 : decode cX5_night 17 = .ok (.aload_n 0, 1) := by decide +kernel
theorem dX5_night_18 : decode cX5_night 18 = .ok (.getfield 16, 3) := by decide +kernel
theorem dX5_night_21 : decode cX5_night 21 = .ok (.getfield 168, 3) := by decide +kernel
theorem dX5_night_24 : decode cX5_night 24 = .ok (.ireturn, 1) := by decide +kernel
theorem dX5_most_0 : decode cX5_most 0 = .ok (.iload_n 1, 1) := by decide +kernel
theorem dX5_most_1 : decode cX5_most 1 = .ok (.ifCond .lt 8, 3) := by decide +kernel
theorem dX5_most_4 : decode cX5_most 4 = .ok (.iload_n 1, 1) := by decide +kernel
theorem dX5_most_5 : decode cX5_most 5 = .ok (.iconst 1, 1) := by decide +kernel
theorem dX5_most_6 : decode cX5_most 6 = .ok (.if_icmp .le 6, 3) := by decide +kernel
theorem dX5_most_9 : decode cX5_most 9 = .ok (.bipush (-102), 2) := by decide +kernel
theorem dX5_most_11 : decode cX5_most 11 = .ok (.ireturn, 1) := by decide +kernel
theorem dX5_most_12 : decode cX5_most 12 = .ok (.aload_n 0, 1) := by decide +kernel
theorem dX5_most_13 : decode cX5_most 13 = .ok (.getfield 75, 3) := by decide +kernel
theorem dX5_most_16 : decode cX5_most 16 = .ok (.ifCond .ne 6, 3) := by decide +kernel
theorem dX5_most_19 : decode cX5_most 19 = .ok (.bipush (-103), 2) := by decide +kernel
theorem dX5_most_21 : decode cX5_most 21 = .ok (.ireturn, 1) := by decide +kernel
theorem dX5_most_22 : decode cX5_most 22 = .ok (.aload_n 0, 1) := by decide +kernel
theorem dX5_most_23 : decode cX5_most 23 = .ok (.getfield 33, 3) := by decide +kernel
theorem dX5_most_26 : decode cX5_most 26 = .ok (.aload_n 0, 1) := by decide +kernel
theorem dX5_most_27 : decode cX5_most 27 = .ok (.getfield 16, 3) := by decide +kernel
theorem dX5_most_30 : decode cX5_most 30 = .ok (.invokevirtual 171, 3) := by decide +kernel
theorem dX5_most_33 : decode cX5_most 33 = .ok (.istore_n 2, 1) := by decide +kernel
theorem dX5_most_34 : decode cX5_most 34 = .ok (.iload_n 1, 1) := by decide +kernel
theorem dX5_most_35 : decode cX5_most 35 = .ok (.ifCond .ne 5, 3) := by decide +kernel
theorem dX5_most_38 : decode cX5_most 38 = .ok (.iload_n 2, 1) := by decide +kernel
theorem dX5_most_39 : decode cX5_most 39 = .ok (.ireturn, 1) := by decide +kernel
theorem dX5_most_40 : decode cX5_most 40 = .ok (.iload_n 2, 1) := by decide +kernel
theorem dX5_most_41 : decode cX5_most 41 = .ok (.aload_n 0, 1) := by decide +kernel
theorem dX5_most_42 : decode cX5_most 42 = .ok (.getfield 16, 3) := by decide +kernel
theorem dX5_most_45 : decode cX5_most 45 = .ok (.invokevirtual 175, 3) := by decide +kernel
theorem dX5_most_48 : decode cX5_most 48 = .ok (.if_icmp .ne 7, 3) := by decide +kernel
theorem dX5_most_51 : decode cX5_most 51 = .ok (.iconst 1, 1) := by decide +kernel
theorem dX5_most_52 : decode cX5_most 52 = .ok (.goto 4, 3) := by decide +kernel
theorem dX5_most_55 : decode cX5_most 55 = .ok (.iconst 0, 1) := by decide +kernel
theorem dX5_most_56 : decode cX5_most 56 = .ok (.ireturn, 1) := by decide +kernel
theorem dX5_who_0 : decode cX5_who 0 = .ok (.aload_n 0, 1) := by decide +kernel
theorem dX5_who_1 : decode cX5_who 1 = .ok (.iload_n 1, 1) := by decide +kernel
theorem dX5_who_2 : decode cX5_who 2 = .ok (.invokevirtual 88, 3) := by decide +kernel
theorem dX5_who_5 : decode cX5_who 5 = .ok (.ifCond .eq 10, 3) := by decide +kernel
theorem dX5_who_8 : decode cX5_who 8 = .ok (.iload_n 2, 1) := by decide +kernel
theorem dX5_who_9 : decode cX5_who 9 = .ok (.invokestatic 151, 3) := by decide +kernel
theorem dX5_who_12 : decode cX5_who 12 = .ok (.ifCond .ne 6, 3) := by decide +kernel
theorem dX5_who_15 : decode cX5_who 15 = .ok (.bipush (-101), 2) := by decide +kernel
theorem dX5_who_17 : decode cX5_who 17 = .ok (.ireturn, 1) := by decide +kernel
theorem dX5_who_18 : decode cX5_who 18 = .ok (.aload_n 0, 1) := by decide +kernel
theorem dX5_who_19 : decode cX5_who 19 = .ok (.getfield 33, 3) := by decide +kernel
theorem dX5_who_22 : decode cX5_who 22 = .ok (.aload_n 0, 1) := by decide +kernel
theorem dX5_who_23 : decode cX5_who 23 = .ok (.getfield 16, 3) := by decide +kernel
theorem dX5_who_26 : decode cX5_who 26 = .ok (.iload_n 1, 1) := by decide +kernel
theorem dX5_who_27 : decode cX5_who 27 = .ok (.iload_n 2, 1) := by decide +kernel
theorem dX5_who_28 : decode cX5_who 28 = .ok (.invokevirtual 178, 3) := by decide +kernel
theorem dX5_who_31 : decode cX5_who 31 = .ok (.ireturn, 1) := by decide +kernel
theorem dX5_trial_0 : decode cX5_trial 0 = .ok (.aload_n 0, 1) := by decide +kernel
theorem dX5_trial_1 : decode cX5_trial 1 = .ok (.iload_n 1, 1) := by decide +kernel
theorem dX5_trial_2 : decode cX5_trial 2 = .ok (.invokevirtual 88, 3) := by decide +kernel
theorem dX5_trial_5 : decode cX5_trial 5 = .ok (.ifCond .eq 10, 3) := by decide +kernel
theorem dX5_trial_8 : decode cX5_trial 8 = .ok (.iload_n 2, 1) := by decide +kernel
theorem dX5_trial_9 : decode cX5_trial 9 = .ok (.invokestatic 151, 3) := by decide +kernel
theorem dX5_trial_12 : decode cX5_trial 12 = .ok (.ifCond .ne 6, 3) := by decide +kernel
theorem dX5_trial_15 : decode cX5_trial 15 = .ok (.bipush (-101), 2) := by decide +kernel
theorem dX5_trial_17 : decode cX5_trial 17 = .ok (.ireturn, 1) := by decide +kernel
theorem dX5_trial_18 : decode cX5_trial 18 = .ok (.aload_n 0, 1) := by decide +kernel
theorem dX5_trial_19 : decode cX5_trial 19 = .ok (.getfield 16, 3) := by decide +kernel
theorem dX5_trial_22 : decode cX5_trial 22 = .ok (.getfield 182, 3) := by decide +kernel
theorem dX5_trial_25 : decode cX5_trial 25 = .ok (.bipush 8, 2) := by decide +kernel
theorem dX5_trial_27 : decode cX5_trial 27 = .ok (.if_icmp .lt 6, 3) := by decide +kernel
theorem dX5_trial_30 : decode cX5_trial 30 = .ok (.bipush (-104), 2) := by decide +kernel
theorem dX5_trial_32 : decode cX5_trial 32 = .ok (.ireturn, 1) := by decide +kernel
theorem dX5_trial_33 : decode cX5_trial 33 = .ok (.aload_n 0, 1) := by decide +kernel
theorem dX5_trial_34 : decode cX5_trial 34 = .ok (.getfield 16, 3) := by decide +kernel
theorem dX5_trial_37 : decode cX5_trial 37 = .ok (.getfield 59, 3) := by decide +kernel
theorem dX5_trial_40 : decode cX5_trial 40 = .ok (.iload_n 1, 1) := by decide +kernel
theorem dX5_trial_41 : decode cX5_trial 41 = .ok (.aaload, 1) := by decide +kernel
theorem dX5_trial_42 : decode cX5_trial 42 = .ok (.iload_n 2, 1) := by decide +kernel
theorem dX5_trial_43 : decode cX5_trial 43 = .ok (.iload_n 3, 1) := by decide +kernel
theorem dX5_trial_44 : decode cX5_trial 44 = .ok (.invokevirtual 185, 3) := by decide +kernel
theorem dX5_trial_47 : decode cX5_trial 47 = .ok (.aload_n 0, 1) := by decide +kernel
theorem dX5_trial_48 : decode cX5_trial 48 = .ok (.getfield 16, 3) := by decide +kernel
theorem dX5_trial_51 : decode cX5_trial 51 = .ok (.dup, 1) := by decide +kernel
theorem dX5_trial_52 : decode cX5_trial 52 = .ok (.getfield 182, 3) := by decide +kernel
theorem dX5_trial_55 : decode cX5_trial 55 = .ok (.iconst 1, 1) := by decide +kernel
theorem dX5_trial_56 : decode cX5_trial 56 = .ok (.iadd, 1) := by decide +kernel
theorem dX5_trial_57 : decode cX5_trial 57 = .ok (.putfield 182, 3) := by decide +kernel
theorem dX5_trial_60 : decode cX5_trial 60 = .ok (.aload_n 0, 1) := by decide +kernel
theorem dX5_trial_61 : decode cX5_trial 61 = .ok (.getfield 16, 3) := by decide +kernel
theorem dX5_trial_64 : decode cX5_trial 64 = .ok (.getfield 182, 3) := by decide +kernel
theorem dX5_trial_67 : decode cX5_trial 67 = .ok (.ireturn, 1) := by decide +kernel
theorem dX5_forget_0 : decode cX5_forget 0 = .ok (.aload_n 0, 1) := by decide +kernel
theorem dX5_forget_1 : decode cX5_forget 1 = .ok (.getfield 16, 3) := by decide +kernel
theorem dX5_forget_4 : decode cX5_forget 4 = .ok (.getfield 182, 3) := by decide +kernel
theorem dX5_forget_7 : decode cX5_forget 7 = .ok (.istore_n 1, 1) := by decide +kernel
theorem dX5_forget_8 : decode cX5_forget 8 = .ok (.aload_n 0, 1) := by decide +kernel
theorem dX5_forget_9 : decode cX5_forget 9 = .ok (.getfield 16, 3) := by decide +kernel
theorem dX5_forget_12 : decode cX5_forget 12 = .ok (.invokevirtual 189, 3) := by decide +kernel
theorem dX5_forget_15 : decode cX5_forget 15 = .ok (.iload_n 1, 1) := by decide +kernel
theorem dX5_forget_16 : decode cX5_forget 16 = .ok (.ireturn, 1) := by decide +kernel
theorem dX5_truths_0 : decode cX5_truths 0 = .ok (.aload_n 0, 1) := by decide +kernel
theorem dX5_truths_1 : decode cX5_truths 1 = .ok (.iload_n 1, 1) := by decide +kernel
theorem dX5_truths_2 : decode cX5_truths 2 = .ok (.invokevirtual 88, 3) := by decide +kernel
theorem dX5_truths_5 : decode cX5_truths 5 = .ok (.ifCond .ne 6, 3) := by decide +kernel
theorem dX5_truths_8 : decode cX5_truths 8 = .ok (.bipush (-101), 2) := by decide +kernel
theorem dX5_truths_10 : decode cX5_truths 10 = .ok (.ireturn, 1) := by decide +kernel
theorem dX5_truths_11 : decode cX5_truths 11 = .ok (.iload_n 2, 1) := by decide +kernel
theorem dX5_truths_12 : decode cX5_truths 12 = .ok (.ifCond .lt 8, 3) := by decide +kernel
theorem dX5_truths_15 : decode cX5_truths 15 = .ok (.iload_n 2, 1) := by decide +kernel
theorem dX5_truths_16 : decode cX5_truths 16 = .ok (.iconst 2, 1) := by decide +kernel
theorem dX5_truths_17 : decode cX5_truths 17 = .ok (.if_icmp .le 6, 3) := by decide +kernel
theorem dX5_truths_20 : decode cX5_truths 20 = .ok (.bipush (-102), 2) := by decide +kernel
theorem dX5_truths_22 : decode cX5_truths 22 = .ok (.ireturn, 1) := by decide +kernel
theorem dX5_truths_23 : decode cX5_truths 23 = .ok (.aload_n 0, 1) := by decide +kernel
theorem dX5_truths_24 : decode cX5_truths 24 = .ok (.getfield 16, 3) := by decide +kernel
theorem dX5_truths_27 : decode cX5_truths 27 = .ok (.getfield 59, 3) := by decide +kernel
theorem dX5_truths_30 : decode cX5_truths 30 = .ok (.iload_n 1, 1) := by decide +kernel
theorem dX5_truths_31 : decode cX5_truths 31 = .ok (.aaload, 1) := by decide +kernel
theorem dX5_truths_32 : decode cX5_truths 32 = .ok (.astore_n 3, 1) := by decide +kernel
theorem dX5_truths_33 : decode cX5_truths 33 = .ok (.iload_n 2, 1) := by decide +kernel
theorem dX5_truths_34 : decode cX5_truths 34 = .ok (.ifCond .ne 8, 3) := by decide +kernel
theorem dX5_truths_37 : decode cX5_truths 37 = .ok (.aload_n 3, 1) := by decide +kernel
theorem dX5_truths_38 : decode cX5_truths 38 = .ok (.invokevirtual 192, 3) := by decide +kernel
theorem dX5_truths_41 : decode cX5_truths 41 = .ok (.ireturn, 1) := by decide +kernel
theorem dX5_truths_42 : decode cX5_truths 42 = .ok (.aload_n 3, 1) := by decide +kernel
theorem dX5_truths_43 : decode cX5_truths 43 = .ok (.invokevirtual 192, 3) := by decide +kernel
theorem dX5_truths_46 : decode cX5_truths 46 = .ok (.ifCond .ne 7, 3) := by decide +kernel
theorem dX5_truths_49 : decode cX5_truths 49 = .ok (.iconst (-1), 1) := by decide +kernel
theorem dX5_truths_50 : decode cX5_truths 50 = .ok (.goto 7, 3) := by decide +kernel
theorem dX5_truths_53 : decode cX5_truths 53 = .ok (.aload_n 3, 1) := by decide +kernel
theorem dX5_truths_54 : decode cX5_truths 54 = .ok (.getfield 195, 3) := by decide +kernel
theorem dX5_truths_57 : decode cX5_truths 57 = .ok (.ireturn, 1) := by decide +kernel
theorem dX5_attempt_0 : decode cX5_attempt 0 = .ok (.aload_n 0, 1) := by decide +kernel
theorem dX5_attempt_1 : decode cX5_attempt 1 = .ok (.iload_n 1, 1) := by decide +kernel
theorem dX5_attempt_2 : decode cX5_attempt 2 = .ok (.invokevirtual 88, 3) := by decide +kernel
theorem dX5_attempt_5 : decode cX5_attempt 5 = .ok (.ifCond .ne 6, 3) := by decide +kernel
theorem dX5_attempt_8 : decode cX5_attempt 8 = .ok (.bipush (-101), 2) := by decide +kernel
theorem dX5_attempt_10 : decode cX5_attempt 10 = .ok (.ireturn, 1) := by decide +kernel
theorem dX5_attempt_11 : decode cX5_attempt 11 = .ok (.aload_n 0, 1) := by decide +kernel
theorem dX5_attempt_12 : decode cX5_attempt 12 = .ok (.getfield 16, 3) := by decide +kernel
theorem dX5_attempt_15 : decode cX5_attempt 15 = .ok (.getfield 59, 3) := by decide +kernel
theorem dX5_attempt_18 : decode cX5_attempt 18 = .ok (.iload_n 1, 1) := by decide +kernel
theorem dX5_attempt_19 : decode cX5_attempt 19 = .ok (.aaload, 1) := by decide +kernel
theorem dX5_attempt_20 : decode cX5_attempt 20 = .ok (.invokevirtual 198, 3) := by decide +kernel
theorem dX5_attempt_23 : decode cX5_attempt 23 = .ok (.ireturn, 1) := by decide +kernel
theorem dX5_weeks_0 : decode cX5_weeks 0 = .ok (.iload_n 1, 1) := by decide +kernel
theorem dX5_weeks_1 : decode cX5_weeks 1 = .ok (.iconst 1, 1) := by decide +kernel
theorem dX5_weeks_2 : decode cX5_weeks 2 = .ok (.if_icmp .lt 22, 3) := by decide +kernel
theorem dX5_weeks_5 : decode cX5_weeks 5 = .ok (.iload_n 1, 1) := by decide +kernel
theorem dX5_weeks_6 : decode cX5_weeks 6 = .ok (.bipush 40, 2) := by decide +kernel
theorem dX5_weeks_8 : decode cX5_weeks 8 = .ok (.if_icmp .gt 16, 3) := by decide +kernel
theorem dX5_weeks_11 : decode cX5_weeks 11 = .ok (.iload_n 2, 1) := by decide +kernel
theorem dX5_weeks_12 : decode cX5_weeks 12 = .ok (.ifCond .lt 12, 3) := by decide +kernel
theorem dX5_weeks_15 : decode cX5_weeks 15 = .ok (.iload_n 3, 1) := by decide +kernel
theorem dX5_weeks_16 : decode cX5_weeks 16 = .ok (.ifCond .lt 8, 3) := by decide +kernel
theorem dX5_weeks_19 : decode cX5_weeks 19 = .ok (.iload_n 3, 1) := by decide +kernel
theorem dX5_weeks_20 : decode cX5_weeks 20 = .ok (.iconst 2, 1) := by decide +kernel
theorem dX5_weeks_21 : decode cX5_weeks 21 = .ok (.if_icmp .le 6, 3) := by decide +kernel
theorem dX5_weeks_24 : decode cX5_weeks 24 = .ok (.bipush (-102), 2) := by decide +kernel
theorem dX5_weeks_26 : decode cX5_weeks 26 = .ok (.ireturn, 1) := by decide +kernel
theorem dX5_weeks_27 : decode cX5_weeks 27 = .ok (.aload_n 0, 1) := by decide +kernel
theorem dX5_weeks_28 : decode cX5_weeks 28 = .ok (.getfield 16, 3) := by decide +kernel
theorem dX5_weeks_31 : decode cX5_weeks 31 = .ok (.getfield 104, 3) := by decide +kernel
theorem dX5_weeks_34 : decode cX5_weeks 34 = .ok (.ifCond .ne 6, 3) := by decide +kernel
theorem dX5_weeks_37 : decode cX5_weeks 37 = .ok (.bipush (-103), 2) := by decide +kernel
theorem dX5_weeks_39 : decode cX5_weeks 39 = .ok (.ireturn, 1) := by decide +kernel
theorem dX5_weeks_40 : decode cX5_weeks 40 = .ok (.aload_n 0, 1) := by decide +kernel
theorem dX5_weeks_41 : decode cX5_weeks 41 = .ok (.getfield 26, 3) := by decide +kernel
theorem dX5_weeks_44 : decode cX5_weeks 44 = .ok (.aload_n 0, 1) := by decide +kernel
theorem dX5_weeks_45 : decode cX5_weeks 45 = .ok (.getfield 16, 3) := by decide +kernel
theorem dX5_weeks_48 : decode cX5_weeks 48 = .ok (.iload_n 1, 1) := by decide +kernel
theorem dX5_weeks_49 : decode cX5_weeks 49 = .ok (.iload_n 2, 1) := by decide +kernel
theorem dX5_weeks_50 : decode cX5_weeks 50 = .ok (.invokevirtual 201, 3) := by decide +kernel
theorem dX5_weeks_53 : decode cX5_weeks 53 = .ok (.iload_n 3, 1) := by decide +kernel
theorem dX5_weeks_54 : decode cX5_weeks 54 = .ok (.lookupswitch 45 #[(0, 26), (1, 34)], 26) := by decide +kernel
theorem dX5_weeks_80 : decode cX5_weeks 80 = .ok (.aload_n 0, 1) := by decide +kernel
theorem dX5_weeks_81 : decode cX5_weeks 81 = .ok (.getfield 26, 3) := by decide +kernel
theorem dX5_weeks_84 : decode cX5_weeks 84 = .ok (.getfield 205, 3) := by decide +kernel
theorem dX5_weeks_87 : decode cX5_weeks 87 = .ok (.ireturn, 1) := by decide +kernel
theorem dX5_weeks_88 : decode cX5_weeks 88 = .ok (.aload_n 0, 1) := by decide +kernel
theorem dX5_weeks_89 : decode cX5_weeks 89 = .ok (.getfield 26, 3) := by decide +kernel
theorem dX5_weeks_92 : decode cX5_weeks 92 = .ok (.getfield 206, 3) := by decide +kernel
theorem dX5_weeks_95 : decode cX5_weeks 95 = .ok (.invokevirtual 209, 3) := by decide +kernel
theorem dX5_weeks_98 : decode cX5_weeks 98 = .ok (.ireturn, 1) := by decide +kernel
theorem dX5_weeks_99 : decode cX5_weeks 99 = .ok (.aload_n 0, 1) := by decide +kernel
theorem dX5_weeks_100 : decode cX5_weeks 100 = .ok (.getfield 26, 3) := by decide +kernel
theorem dX5_weeks_103 : decode cX5_weeks 103 = .ok (.getfield 212, 3) := by decide +kernel
theorem dX5_weeks_106 : decode cX5_weeks 106 = .ok (.ireturn, 1) := by decide +kernel
theorem dX5_image_0 : decode cX5_image 0 = .ok (.aload_n 0, 1) := by decide +kernel
theorem dX5_image_1 : decode cX5_image 1 = .ok (.getfield 75, 3) := by decide +kernel
theorem dX5_image_4 : decode cX5_image 4 = .ok (.ifCond .ne 6, 3) := by decide +kernel
theorem dX5_image_7 : decode cX5_image 7 = .ok (.bipush (-103), 2) := by decide +kernel
theorem dX5_image_9 : decode cX5_image 9 = .ok (.ireturn, 1) := by decide +kernel
theorem dX5_image_10 : decode cX5_image 10 = .ok (.aload_n 0, 1) := by decide +kernel
theorem dX5_image_11 : decode cX5_image 11 = .ok (.getfield 20, 3) := by decide +kernel
theorem dX5_image_14 : decode cX5_image 14 = .ok (.aload_n 0, 1) := by decide +kernel
theorem dX5_image_15 : decode cX5_image 15 = .ok (.getfield 16, 3) := by decide +kernel
theorem dX5_image_18 : decode cX5_image 18 = .ok (.invokevirtual 215, 3) := by decide +kernel
theorem dX5_image_21 : decode cX5_image 21 = .ok (.aload_n 0, 1) := by decide +kernel
theorem dX5_image_22 : decode cX5_image 22 = .ok (.iconst 1, 1) := by decide +kernel
theorem dX5_image_23 : decode cX5_image 23 = .ok (.putfield 79, 3) := by decide +kernel
theorem dX5_image_26 : decode cX5_image 26 = .ok (.aload_n 0, 1) := by decide +kernel
theorem dX5_image_27 : decode cX5_image 27 = .ok (.getfield 16, 3) := by decide +kernel
theorem dX5_image_30 : decode cX5_image 30 = .ok (.getfield 168, 3) := by decide +kernel
theorem dX5_image_33 : decode cX5_image 33 = .ok (.ireturn, 1) := by decide +kernel
theorem dX5_restore_0 : decode cX5_restore 0 = .ok (.aload_n 0, 1) := by decide +kernel
theorem dX5_restore_1 : decode cX5_restore 1 = .ok (.getfield 79, 3) := by decide +kernel
theorem dX5_restore_4 : decode cX5_restore 4 = .ok (.ifCond .ne 6, 3) := by decide +kernel
theorem dX5_restore_7 : decode cX5_restore 7 = .ok (.bipush (-103), 2) := by decide +kernel
theorem dX5_restore_9 : decode cX5_restore 9 = .ok (.ireturn, 1) := by decide +kernel
theorem dX5_restore_10 : decode cX5_restore 10 = .ok (.aload_n 0, 1) := by decide +kernel
theorem dX5_restore_11 : decode cX5_restore 11 = .ok (.getfield 16, 3) := by decide +kernel
theorem dX5_restore_14 : decode cX5_restore 14 = .ok (.aload_n 0, 1) := by decide +kernel
theorem dX5_restore_15 : decode cX5_restore 15 = .ok (.getfield 20, 3) := by decide +kernel
theorem dX5_restore_18 : decode cX5_restore 18 = .ok (.invokevirtual 215, 3) := by decide +kernel
theorem dX5_restore_21 : decode cX5_restore 21 = .ok (.aload_n 0, 1) := by decide +kernel
theorem dX5_restore_22 : decode cX5_restore 22 = .ok (.getfield 16, 3) := by decide +kernel
theorem dX5_restore_25 : decode cX5_restore 25 = .ok (.getfield 168, 3) := by decide +kernel
theorem dX5_restore_28 : decode cX5_restore 28 = .ok (.ireturn, 1) := by decide +kernel
theorem dX5_count_0 : decode cX5_count 0 = .ok (.iload_n 1, 1) := by decide +kernel
theorem dX5_count_1 : decode cX5_count 1 = .ok (.ifCond .lt 9, 3) := by decide +kernel
theorem dX5_count_4 : decode cX5_count 4 = .ok (.iload_n 1, 1) := by decide +kernel
theorem dX5_count_5 : decode cX5_count 5 = .ok (.bipush 9, 2) := by decide +kernel
theorem dX5_count_7 : decode cX5_count 7 = .ok (.if_icmp .le 6, 3) := by decide +kernel
theorem dX5_count_10 : decode cX5_count 10 = .ok (.bipush (-102), 2) := by decide +kernel
theorem dX5_count_12 : decode cX5_count 12 = .ok (.ireturn, 1) := by decide +kernel
theorem dX5_count_13 : decode cX5_count 13 = .ok (.iload_n 1, 1) := by decide +kernel
theorem dX5_count_14 : decode cX5_count 14 = .ok (.tableswitch 126 0 8 #[50, 58, 66, 74, 82, 97, 105, 113, 121], 50) := by decide +kernel
theorem dX5_count_64 : decode cX5_count 64 = .ok (.aload_n 0, 1) := by decide +kernel
theorem dX5_count_65 : decode cX5_count 65 = .ok (.getfield 16, 3) := by decide +kernel
theorem dX5_count_68 : decode cX5_count 68 = .ok (.invokevirtual 85, 3) := by decide +kernel
theorem dX5_count_71 : decode cX5_count 71 = .ok (.ireturn, 1) := by decide +kernel
theorem dX5_count_72 : decode cX5_count 72 = .ok (.aload_n 0, 1) := by decide +kernel
theorem dX5_count_73 : decode cX5_count 73 = .ok (.getfield 16, 3) := by decide +kernel
theorem dX5_count_76 : decode cX5_count 76 = .ok (.getfield 72, 3) := by decide +kernel
theorem dX5_count_79 : decode cX5_count 79 = .ok (.ireturn, 1) := by decide +kernel
theorem dX5_count_80 : decode cX5_count 80 = .ok (.aload_n 0, 1) := by decide +kernel
theorem dX5_count_81 : decode cX5_count 81 = .ok (.getfield 16, 3) := by decide +kernel
theorem dX5_count_84 : decode cX5_count 84 = .ok (.getfield 104, 3) := by decide +kernel
theorem dX5_count_87 : decode cX5_count 87 = .ok (.ireturn, 1) := by decide +kernel
theorem dX5_count_88 : decode cX5_count 88 = .ok (.aload_n 0, 1) := by decide +kernel
theorem dX5_count_89 : decode cX5_count 89 = .ok (.getfield 16, 3) := by decide +kernel
theorem dX5_count_92 : decode cX5_count 92 = .ok (.invokevirtual 209, 3) := by decide +kernel
theorem dX5_count_95 : decode cX5_count 95 = .ok (.ireturn, 1) := by decide +kernel
theorem dX5_count_96 : decode cX5_count 96 = .ok (.aload_n 0, 1) := by decide +kernel
theorem dX5_count_97 : decode cX5_count 97 = .ok (.getfield 16, 3) := by decide +kernel
theorem dX5_count_100 : decode cX5_count 100 = .ok (.aload_n 0, 1) := by decide +kernel
theorem dX5_count_101 : decode cX5_count 101 = .ok (.getfield 16, 3) := by decide +kernel
theorem dX5_count_104 : decode cX5_count 104 = .ok (.invokevirtual 219, 3) := by decide +kernel
theorem dX5_count_107 : decode cX5_count 107 = .ok (.invokevirtual 98, 3) := by decide +kernel
theorem dX5_count_110 : decode cX5_count 110 = .ok (.ireturn, 1) := by decide +kernel
theorem dX5_count_111 : decode cX5_count 111 = .ok (.aload_n 0, 1) := by decide +kernel
theorem dX5_count_112 : decode cX5_count 112 = .ok (.getfield 16, 3) := by decide +kernel
theorem dX5_count_115 : decode cX5_count 115 = .ok (.invokevirtual 222, 3) := by decide +kernel
theorem dX5_count_118 : decode cX5_count 118 = .ok (.ireturn, 1) := by decide +kernel
theorem dX5_count_119 : decode cX5_count 119 = .ok (.aload_n 0, 1) := by decide +kernel
theorem dX5_count_120 : decode cX5_count 120 = .ok (.getfield 16, 3) := by decide +kernel
theorem dX5_count_123 : decode cX5_count 123 = .ok (.getfield 168, 3) := by decide +kernel
theorem dX5_count_126 : decode cX5_count 126 = .ok (.ireturn, 1) := by decide +kernel
theorem dX5_count_127 : decode cX5_count 127 = .ok (.aload_n 0, 1) := by decide +kernel
theorem dX5_count_128 : decode cX5_count 128 = .ok (.getfield 16, 3) := by decide +kernel
theorem dX5_count_131 : decode cX5_count 131 = .ok (.getfield 182, 3) := by decide +kernel
theorem dX5_count_134 : decode cX5_count 134 = .ok (.ireturn, 1) := by decide +kernel
theorem dX5_count_135 : decode cX5_count 135 = .ok (.aload_n 0, 1) := by decide +kernel
theorem dX5_count_136 : decode cX5_count 136 = .ok (.getfield 37, 3) := by decide +kernel
theorem dX5_count_139 : decode cX5_count 139 = .ok (.ireturn, 1) := by decide +kernel
theorem dX5_count_140 : decode cX5_count 140 = .ok (.aload_n 0, 1) := by decide +kernel
theorem dX5_count_141 : decode cX5_count 141 = .ok (.getfield 82, 3) := by decide +kernel
theorem dX5_count_144 : decode cX5_count 144 = .ok (.ireturn, 1) := by decide +kernel
theorem dX5_digest_0 : decode cX5_digest 0 = .ok (.ldc2_w 225, 3) := by decide +kernel
theorem dX5_digest_3 : decode cX5_digest 3 = .ok (.lstore_n 1, 1) := by decide +kernel
theorem dX5_digest_4 : decode cX5_digest 4 = .ok (.aload_n 0, 1) := by decide +kernel
theorem dX5_digest_5 : decode cX5_digest 5 = .ok (.getfield 75, 3) := by decide +kernel
theorem dX5_digest_8 : decode cX5_digest 8 = .ok (.ifCond .eq 46, 3) := by decide +kernel
theorem dX5_digest_11 : decode cX5_digest 11 = .ok (.iconst 0, 1) := by decide +kernel
theorem dX5_digest_12 : decode cX5_digest 12 = .ok (.istore_n 3, 1) := by decide +kernel
theorem dX5_digest_13 : decode cX5_digest 13 = .ok (.iload_n 3, 1) := by decide +kernel
theorem dX5_digest_14 : decode cX5_digest 14 = .ok (.iconst 3, 1) := by decide +kernel
theorem dX5_digest_15 : decode cX5_digest 15 = .ok (.if_icmp .ge 16, 3) := by decide +kernel
theorem dX5_digest_18 : decode cX5_digest 18 = .ok (.aload_n 0, 1) := by decide +kernel
theorem dX5_digest_19 : decode cX5_digest 19 = .ok (.lload_n 1, 1) := by decide +kernel
theorem dX5_digest_20 : decode cX5_digest 20 = .ok (.iload_n 3, 1) := by decide +kernel
theorem dX5_digest_21 : decode cX5_digest 21 = .ok (.invokevirtual 227, 3) := by decide +kernel
theorem dX5_digest_24 : decode cX5_digest 24 = .ok (.lstore_n 1, 1) := by decide +kernel
theorem dX5_digest_25 : decode cX5_digest 25 = .ok (.iinc 3 1, 3) := by decide +kernel
theorem dX5_digest_28 : decode cX5_digest 28 = .ok (.goto (-15), 3) := by decide +kernel
theorem dX5_digest_31 : decode cX5_digest 31 = .ok (.iconst 0, 1) := by decide +kernel
theorem dX5_digest_32 : decode cX5_digest 32 = .ok (.istore_n 3, 1) := by decide +kernel
theorem dX5_digest_33 : decode cX5_digest 33 = .ok (.iload_n 3, 1) := by decide +kernel
theorem dX5_digest_34 : decode cX5_digest 34 = .ok (.iconst 1, 1) := by decide +kernel
theorem dX5_digest_35 : decode cX5_digest 35 = .ok (.if_icmp .gt 19, 3) := by decide +kernel
theorem dX5_digest_38 : decode cX5_digest 38 = .ok (.lload_n 1, 1) := by decide +kernel
theorem dX5_digest_39 : decode cX5_digest 39 = .ok (.aload_n 0, 1) := by decide +kernel
theorem dX5_digest_40 : decode cX5_digest 40 = .ok (.iload_n 3, 1) := by decide +kernel
theorem dX5_digest_41 : decode cX5_digest 41 = .ok (.invokevirtual 231, 3) := by decide +kernel
theorem dX5_digest_44 : decode cX5_digest 44 = .ok (.invokestatic 234, 3) := by decide +kernel
theorem dX5_digest_47 : decode cX5_digest 47 = .ok (.lstore_n 1, 1) := by decide +kernel
theorem dX5_digest_48 : decode cX5_digest 48 = .ok (.iinc 3 1, 3) := by decide +kernel
theorem dX5_digest_51 : decode cX5_digest 51 = .ok (.goto (-18), 3) := by decide +kernel
theorem dX5_digest_54 : decode cX5_digest 54 = .ok (.iconst 0, 1) := by decide +kernel
theorem dX5_digest_55 : decode cX5_digest 55 = .ok (.istore_n 3, 1) := by decide +kernel
theorem dX5_digest_56 : decode cX5_digest 56 = .ok (.iload_n 3, 1) := by decide +kernel
theorem dX5_digest_57 : decode cX5_digest 57 = .ok (.aload_n 0, 1) := by decide +kernel
theorem dX5_digest_58 : decode cX5_digest 58 = .ok (.getfield 16, 3) := by decide +kernel
theorem dX5_digest_61 : decode cX5_digest 61 = .ok (.getfield 104, 3) := by decide +kernel
theorem dX5_digest_64 : decode cX5_digest 64 = .ok (.if_icmp .ge 37, 3) := by decide +kernel
theorem dX5_digest_67 : decode cX5_digest 67 = .ok (.iconst 0, 1) := by decide +kernel
theorem dX5_digest_68 : decode cX5_digest 68 = .ok (.istore 4, 2) := by decide +kernel
theorem dX5_digest_70 : decode cX5_digest 70 = .ok (.iload 4, 2) := by decide +kernel
theorem dX5_digest_72 : decode cX5_digest 72 = .ok (.bipush 8, 2) := by decide +kernel
theorem dX5_digest_74 : decode cX5_digest 74 = .ok (.if_icmp .gt 21, 3) := by decide +kernel
theorem dX5_digest_77 : decode cX5_digest 77 = .ok (.lload_n 1, 1) := by decide +kernel
theorem dX5_digest_78 : decode cX5_digest 78 = .ok (.aload_n 0, 1) := by decide +kernel
theorem dX5_digest_79 : decode cX5_digest 79 = .ok (.iload_n 3, 1) := by decide +kernel
theorem dX5_digest_80 : decode cX5_digest 80 = .ok (.iload 4, 2) := by decide +kernel
theorem dX5_digest_82 : decode cX5_digest 82 = .ok (.invokevirtual 237, 3) := by decide +kernel
theorem dX5_digest_85 : decode cX5_digest 85 = .ok (.invokestatic 234, 3) := by decide +kernel
theorem dX5_digest_88 : decode cX5_digest 88 = .ok (.lstore_n 1, 1) := by decide +kernel
theorem dX5_digest_89 : decode cX5_digest 89 = .ok (.iinc 4 1, 3) := by decide +kernel
theorem dX5_digest_92 : decode cX5_digest 92 = .ok (.goto (-22), 3) := by decide +kernel
theorem dX5_digest_95 : decode cX5_digest 95 = .ok (.iinc 3 1, 3) := by decide +kernel
theorem dX5_digest_98 : decode cX5_digest 98 = .ok (.goto (-42), 3) := by decide +kernel
theorem dX5_digest_101 : decode cX5_digest 101 = .ok (.iconst 0, 1) := by decide +kernel
theorem dX5_digest_102 : decode cX5_digest 102 = .ok (.istore_n 3, 1) := by decide +kernel
theorem dX5_digest_103 : decode cX5_digest 103 = .ok (.iload_n 3, 1) := by decide +kernel
theorem dX5_digest_104 : decode cX5_digest 104 = .ok (.aload_n 0, 1) := by decide +kernel
theorem dX5_digest_105 : decode cX5_digest 105 = .ok (.getfield 37, 3) := by decide +kernel
theorem dX5_digest_108 : decode cX5_digest 108 = .ok (.if_icmp .ge 20, 3) := by decide +kernel
theorem dX5_digest_111 : decode cX5_digest 111 = .ok (.lload_n 1, 1) := by decide +kernel
theorem dX5_digest_112 : decode cX5_digest 112 = .ok (.aload_n 0, 1) := by decide +kernel
theorem dX5_digest_113 : decode cX5_digest 113 = .ok (.getfield 9, 3) := by decide +kernel
theorem dX5_digest_116 : decode cX5_digest 116 = .ok (.iload_n 3, 1) := by decide +kernel
theorem dX5_digest_117 : decode cX5_digest 117 = .ok (.caload, 1) := by decide +kernel
theorem dX5_digest_118 : decode cX5_digest 118 = .ok (.invokestatic 234, 3) := by decide +kernel
theorem dX5_digest_121 : decode cX5_digest 121 = .ok (.lstore_n 1, 1) := by decide +kernel
theorem dX5_digest_122 : decode cX5_digest 122 = .ok (.iinc 3 1, 3) := by decide +kernel
theorem dX5_digest_125 : decode cX5_digest 125 = .ok (.goto (-22), 3) := by decide +kernel
theorem dX5_digest_128 : decode cX5_digest 128 = .ok (.iconst 0, 1) := by decide +kernel
theorem dX5_digest_129 : decode cX5_digest 129 = .ok (.istore_n 3, 1) := by decide +kernel
theorem dX5_digest_130 : decode cX5_digest 130 = .ok (.iload_n 3, 1) := by decide +kernel
theorem dX5_digest_131 : decode cX5_digest 131 = .ok (.bipush 9, 2) := by decide +kernel
theorem dX5_digest_133 : decode cX5_digest 133 = .ok (.if_icmp .gt 19, 3) := by decide +kernel
theorem dX5_digest_136 : decode cX5_digest 136 = .ok (.lload_n 1, 1) := by decide +kernel
theorem dX5_digest_137 : decode cX5_digest 137 = .ok (.aload_n 0, 1) := by decide +kernel
theorem dX5_digest_138 : decode cX5_digest 138 = .ok (.iload_n 3, 1) := by decide +kernel
theorem dX5_digest_139 : decode cX5_digest 139 = .ok (.invokevirtual 241, 3) := by decide +kernel
theorem dX5_digest_142 : decode cX5_digest 142 = .ok (.invokestatic 234, 3) := by decide +kernel
theorem dX5_digest_145 : decode cX5_digest 145 = .ok (.lstore_n 1, 1) := by decide +kernel
theorem dX5_digest_146 : decode cX5_digest 146 = .ok (.iinc 3 1, 3) := by decide +kernel
theorem dX5_digest_149 : decode cX5_digest 149 = .ok (.goto (-19), 3) := by decide +kernel
theorem dX5_digest_152 : decode cX5_digest 152 = .ok (.lload_n 1, 1) := by decide +kernel
theorem dX5_digest_153 : decode cX5_digest 153 = .ok (.lreturn, 1) := by decide +kernel
theorem dX5_withVictim_0 : decode cX5_withVictim 0 = .ok (.lload_n 1, 1) := by decide +kernel
theorem dX5_withVictim_1 : decode cX5_withVictim 1 = .ok (.lstore 4, 2) := by decide +kernel
theorem dX5_withVictim_3 : decode cX5_withVictim 3 = .ok (.iconst 0, 1) := by decide +kernel
theorem dX5_withVictim_4 : decode cX5_withVictim 4 = .ok (.istore 6, 2) := by decide +kernel
theorem dX5_withVictim_6 : decode cX5_withVictim 6 = .ok (.iload 6, 2) := by decide +kernel
theorem dX5_withVictim_8 : decode cX5_withVictim 8 = .ok (.iconst 3, 1) := by decide +kernel
theorem dX5_withVictim_9 : decode cX5_withVictim 9 = .ok (.if_icmp .gt 23, 3) := by decide +kernel
theorem dX5_withVictim_12 : decode cX5_withVictim 12 = .ok (.lload 4, 2) := by decide +kernel
theorem dX5_withVictim_14 : decode cX5_withVictim 14 = .ok (.aload_n 0, 1) := by decide +kernel
theorem dX5_withVictim_15 : decode cX5_withVictim 15 = .ok (.iload_n 3, 1) := by decide +kernel
theorem dX5_withVictim_16 : decode cX5_withVictim 16 = .ok (.iload 6, 2) := by decide +kernel
theorem dX5_withVictim_18 : decode cX5_withVictim 18 = .ok (.invokevirtual 244, 3) := by decide +kernel
theorem dX5_withVictim_21 : decode cX5_withVictim 21 = .ok (.invokestatic 234, 3) := by decide +kernel
theorem dX5_withVictim_24 : decode cX5_withVictim 24 = .ok (.lstore 4, 2) := by decide +kernel
theorem dX5_withVictim_26 : decode cX5_withVictim 26 = .ok (.iinc 6 1, 3) := by decide +kernel
theorem dX5_withVictim_29 : decode cX5_withVictim 29 = .ok (.goto (-23), 3) := by decide +kernel
theorem dX5_withVictim_32 : decode cX5_withVictim 32 = .ok (.iconst 0, 1) := by decide +kernel
theorem dX5_withVictim_33 : decode cX5_withVictim 33 = .ok (.istore 6, 2) := by decide +kernel
theorem dX5_withVictim_35 : decode cX5_withVictim 35 = .ok (.iload 6, 2) := by decide +kernel
theorem dX5_withVictim_37 : decode cX5_withVictim 37 = .ok (.bipush 6, 2) := by decide +kernel
theorem dX5_withVictim_39 : decode cX5_withVictim 39 = .ok (.if_icmp .ge 23, 3) := by decide +kernel
theorem dX5_withVictim_42 : decode cX5_withVictim 42 = .ok (.lload 4, 2) := by decide +kernel
theorem dX5_withVictim_44 : decode cX5_withVictim 44 = .ok (.aload_n 0, 1) := by decide +kernel
theorem dX5_withVictim_45 : decode cX5_withVictim 45 = .ok (.iload_n 3, 1) := by decide +kernel
theorem dX5_withVictim_46 : decode cX5_withVictim 46 = .ok (.iload 6, 2) := by decide +kernel
theorem dX5_withVictim_48 : decode cX5_withVictim 48 = .ok (.invokevirtual 246, 3) := by decide +kernel
theorem dX5_withVictim_51 : decode cX5_withVictim 51 = .ok (.invokestatic 234, 3) := by decide +kernel
theorem dX5_withVictim_54 : decode cX5_withVictim 54 = .ok (.lstore 4, 2) := by decide +kernel
theorem dX5_withVictim_56 : decode cX5_withVictim 56 = .ok (.iinc 6 1, 3) := by decide +kernel
theorem dX5_withVictim_59 : decode cX5_withVictim 59 = .ok (.goto (-24), 3) := by decide +kernel
theorem dX5_withVictim_62 : decode cX5_withVictim 62 = .ok (.iconst 0, 1) := by decide +kernel
theorem dX5_withVictim_63 : decode cX5_withVictim 63 = .ok (.istore 6, 2) := by decide +kernel
theorem dX5_withVictim_65 : decode cX5_withVictim 65 = .ok (.iload 6, 2) := by decide +kernel
theorem dX5_withVictim_67 : decode cX5_withVictim 67 = .ok (.iconst 2, 1) := by decide +kernel
theorem dX5_withVictim_68 : decode cX5_withVictim 68 = .ok (.if_icmp .gt 23, 3) := by decide +kernel
theorem dX5_withVictim_71 : decode cX5_withVictim 71 = .ok (.lload 4, 2) := by decide +kernel
theorem dX5_withVictim_73 : decode cX5_withVictim 73 = .ok (.aload_n 0, 1) := by decide +kernel
theorem dX5_withVictim_74 : decode cX5_withVictim 74 = .ok (.iload_n 3, 1) := by decide +kernel
theorem dX5_withVictim_75 : decode cX5_withVictim 75 = .ok (.iload 6, 2) := by decide +kernel
theorem dX5_withVictim_77 : decode cX5_withVictim 77 = .ok (.invokevirtual 249, 3) := by decide +kernel
theorem dX5_withVictim_80 : decode cX5_withVictim 80 = .ok (.invokestatic 234, 3) := by decide +kernel
theorem dX5_withVictim_83 : decode cX5_withVictim 83 = .ok (.lstore 4, 2) := by decide +kernel
theorem dX5_withVictim_85 : decode cX5_withVictim 85 = .ok (.iinc 6 1, 3) := by decide +kernel
theorem dX5_withVictim_88 : decode cX5_withVictim 88 = .ok (.goto (-23), 3) := by decide +kernel
theorem dX5_withVictim_91 : decode cX5_withVictim 91 = .ok (.lload 4, 2) := by decide +kernel
theorem dX5_withVictim_93 : decode cX5_withVictim 93 = .ok (.aload_n 0, 1) := by decide +kernel
theorem dX5_withVictim_94 : decode cX5_withVictim 94 = .ok (.iload_n 3, 1) := by decide +kernel
theorem dX5_withVictim_95 : decode cX5_withVictim 95 = .ok (.invokevirtual 252, 3) := by decide +kernel
theorem dX5_withVictim_98 : decode cX5_withVictim 98 = .ok (.invokestatic 234, 3) := by decide +kernel
theorem dX5_withVictim_101 : decode cX5_withVictim 101 = .ok (.lreturn, 1) := by decide +kernel
theorem dX5_with_0 : decode cX5_with 0 = .ok (.ldc2_w 255, 3) := by decide +kernel
theorem dX5_with_3 : decode cX5_with 3 = .ok (.lload_n 0, 1) := by decide +kernel
theorem dX5_with_4 : decode cX5_with 4 = .ok (.lmul, 1) := by decide +kernel
theorem dX5_with_5 : decode cX5_with 5 = .ok (.iload_n 2, 1) := by decide +kernel
theorem dX5_with_6 : decode cX5_with 6 = .ok (.i2l, 1) := by decide +kernel
theorem dX5_with_7 : decode cX5_with 7 = .ok (.ladd, 1) := by decide +kernel
theorem dX5_with_8 : decode cX5_with 8 = .ok (.lreturn, 1) := by decide +kernel
theorem dX5_fits_0 : decode cX5_fits 0 = .ok (.iload_n 0, 1) := by decide +kernel
theorem dX5_fits_1 : decode cX5_fits 1 = .ok (.ldc 45, 2) := by decide +kernel
theorem dX5_fits_3 : decode cX5_fits 3 = .ok (.invokevirtual 47, 3) := by decide +kernel
theorem dX5_fits_6 : decode cX5_fits 6 = .ok (.if_icmp .lt 5, 3) := by decide +kernel
theorem dX5_fits_9 : decode cX5_fits 9 = .ok (.iconst 0, 1) := by decide +kernel
theorem dX5_fits_10 : decode cX5_fits 10 = .ok (.ireturn, 1) := by decide +kernel
theorem dX5_fits_11 : decode cX5_fits 11 = .ok (.ldc 45, 2) := by decide +kernel
theorem dX5_fits_13 : decode cX5_fits 13 = .ok (.iload_n 0, 1) := by decide +kernel
theorem dX5_fits_14 : decode cX5_fits 14 = .ok (.invokevirtual 257, 3) := by decide +kernel
theorem dX5_fits_17 : decode cX5_fits 17 = .ok (.istore_n 2, 1) := by decide +kernel
theorem dX5_fits_18 : decode cX5_fits 18 = .ok (.iload_n 2, 1) := by decide +kernel
theorem dX5_fits_19 : decode cX5_fits 19 = .ok (.bipush 48, 2) := by decide +kernel
theorem dX5_fits_21 : decode cX5_fits 21 = .ok (.if_icmp .lt 13, 3) := by decide +kernel
theorem dX5_fits_24 : decode cX5_fits 24 = .ok (.iload_n 2, 1) := by decide +kernel
theorem dX5_fits_25 : decode cX5_fits 25 = .ok (.bipush 57, 2) := by decide +kernel
theorem dX5_fits_27 : decode cX5_fits 27 = .ok (.if_icmp .gt 7, 3) := by decide +kernel
theorem dX5_fits_30 : decode cX5_fits 30 = .ok (.iconst 1, 1) := by decide +kernel
theorem dX5_fits_31 : decode cX5_fits 31 = .ok (.goto 4, 3) := by decide +kernel
theorem dX5_fits_34 : decode cX5_fits 34 = .ok (.iconst 0, 1) := by decide +kernel
theorem dX5_fits_35 : decode cX5_fits 35 = .ok (.istore_n 3, 1) := by decide +kernel
theorem dX5_fits_36 : decode cX5_fits 36 = .ok (.iload_n 3, 1) := by decide +kernel
theorem dX5_fits_37 : decode cX5_fits 37 = .ok (.ifCond .eq 22, 3) := by decide +kernel
theorem dX5_fits_40 : decode cX5_fits 40 = .ok (.iload_n 1, 1) := by decide +kernel
theorem dX5_fits_41 : decode cX5_fits 41 = .ok (.bipush 48, 2) := by decide +kernel
theorem dX5_fits_43 : decode cX5_fits 43 = .ok (.if_icmp .lt 12, 3) := by decide +kernel
theorem dX5_fits_46 : decode cX5_fits 46 = .ok (.iload_n 1, 1) := by decide +kernel
theorem dX5_fits_47 : decode cX5_fits 47 = .ok (.iload_n 2, 1) := by decide +kernel
theorem dX5_fits_48 : decode cX5_fits 48 = .ok (.if_icmp .gt 7, 3) := by decide +kernel
theorem dX5_fits_51 : decode cX5_fits 51 = .ok (.iconst 1, 1) := by decide +kernel
theorem dX5_fits_52 : decode cX5_fits 52 = .ok (.goto 17, 3) := by decide +kernel
theorem dX5_fits_55 : decode cX5_fits 55 = .ok (.iconst 0, 1) := by decide +kernel
theorem dX5_fits_56 : decode cX5_fits 56 = .ok (.goto 13, 3) := by decide +kernel
theorem dX5_fits_59 : decode cX5_fits 59 = .ok (.iload_n 1, 1) := by decide +kernel
theorem dX5_fits_60 : decode cX5_fits 60 = .ok (.iload_n 2, 1) := by decide +kernel
theorem dX5_fits_61 : decode cX5_fits 61 = .ok (.if_icmp .ne 7, 3) := by decide +kernel
theorem dX5_fits_64 : decode cX5_fits 64 = .ok (.iconst 1, 1) := by decide +kernel
theorem dX5_fits_65 : decode cX5_fits 65 = .ok (.goto 4, 3) := by decide +kernel
theorem dX5_fits_68 : decode cX5_fits 68 = .ok (.iconst 0, 1) := by decide +kernel
theorem dX5_fits_69 : decode cX5_fits 69 = .ok (.ireturn, 1) := by decide +kernel
theorem dX5_digitAt_0 : decode cX5_digitAt 0 = .ok (.aload_n 0, 1) := by decide +kernel
theorem dX5_digitAt_1 : decode cX5_digitAt 1 = .ok (.getfield 9, 3) := by decide +kernel
theorem dX5_digitAt_4 : decode cX5_digitAt 4 = .ok (.iload_n 1, 1) := by decide +kernel
theorem dX5_digitAt_5 : decode cX5_digitAt 5 = .ok (.caload, 1) := by decide +kernel
theorem dX5_digitAt_6 : decode cX5_digitAt 6 = .ok (.bipush 48, 2) := by decide +kernel
theorem dX5_digitAt_8 : decode cX5_digitAt 8 = .ok (.isub, 1) := by decide +kernel
theorem dX5_digitAt_9 : decode cX5_digitAt 9 = .ok (.ireturn, 1) := by decide +kernel
theorem dX5_isVictim_0 : decode cX5_isVictim 0 = .ok (.aload_n 0, 1) := by decide +kernel
theorem dX5_isVictim_1 : decode cX5_isVictim 1 = .ok (.getfield 75, 3) := by decide +kernel
theorem dX5_isVictim_4 : decode cX5_isVictim 4 = .ok (.ifCond .eq 16, 3) := by decide +kernel
theorem dX5_isVictim_7 : decode cX5_isVictim 7 = .ok (.iload_n 1, 1) := by decide +kernel
theorem dX5_isVictim_8 : decode cX5_isVictim 8 = .ok (.ifCond .lt 12, 3) := by decide +kernel
theorem dX5_isVictim_11 : decode cX5_isVictim 11 = .ok (.iload_n 1, 1) := by decide +kernel
theorem dX5_isVictim_12 : decode cX5_isVictim 12 = .ok (.iconst 3, 1) := by decide +kernel
theorem dX5_isVictim_13 : decode cX5_isVictim 13 = .ok (.if_icmp .ge 7, 3) := by decide +kernel
theorem dX5_isVictim_16 : decode cX5_isVictim 16 = .ok (.iconst 1, 1) := by decide +kernel
theorem dX5_isVictim_17 : decode cX5_isVictim 17 = .ok (.goto 4, 3) := by decide +kernel
theorem dX5_isVictim_20 : decode cX5_isVictim 20 = .ok (.iconst 0, 1) := by decide +kernel
theorem dX5_isVictim_21 : decode cX5_isVictim 21 = .ok (.ireturn, 1) := by decide +kernel
theorem dX5_isConvict_0 : decode cX5_isConvict 0 = .ok (.iload_n 1, 1) := by decide +kernel
theorem dX5_isConvict_1 : decode cX5_isConvict 1 = .ok (.ifCond .lt 18, 3) := by decide +kernel
theorem dX5_isConvict_4 : decode cX5_isConvict 4 = .ok (.iload_n 1, 1) := by decide +kernel
theorem dX5_isConvict_5 : decode cX5_isConvict 5 = .ok (.aload_n 0, 1) := by decide +kernel
theorem dX5_isConvict_6 : decode cX5_isConvict 6 = .ok (.getfield 16, 3) := by decide +kernel
theorem dX5_isConvict_9 : decode cX5_isConvict 9 = .ok (.getfield 104, 3) := by decide +kernel
theorem dX5_isConvict_12 : decode cX5_isConvict 12 = .ok (.if_icmp .ge 7, 3) := by decide +kernel
theorem dX5_isConvict_15 : decode cX5_isConvict 15 = .ok (.iconst 1, 1) := by decide +kernel
theorem dX5_isConvict_16 : decode cX5_isConvict 16 = .ok (.goto 4, 3) := by decide +kernel
theorem dX5_isConvict_19 : decode cX5_isConvict 19 = .ok (.iconst 0, 1) := by decide +kernel
theorem dX5_isConvict_20 : decode cX5_isConvict 20 = .ok (.ireturn, 1) := by decide +kernel
theorem dX5_isSaying_0 : decode cX5_isSaying 0 = .ok (.iload_n 0, 1) := by decide +kernel
theorem dX5_isSaying_1 : decode cX5_isSaying 1 = .ok (.ifCond .lt 13, 3) := by decide +kernel
theorem dX5_isSaying_4 : decode cX5_isSaying 4 = .ok (.iload_n 0, 1) := by decide +kernel
theorem dX5_isSaying_5 : decode cX5_isSaying 5 = .ok (.bipush 6, 2) := by decide +kernel
theorem dX5_isSaying_7 : decode cX5_isSaying 7 = .ok (.if_icmp .ge 7, 3) := by decide +kernel
theorem dX5_isSaying_10 : decode cX5_isSaying 10 = .ok (.iconst 1, 1) := by decide +kernel
theorem dX5_isSaying_11 : decode cX5_isSaying 11 = .ok (.goto 4, 3) := by decide +kernel
theorem dX5_isSaying_14 : decode cX5_isSaying 14 = .ok (.iconst 0, 1) := by decide +kernel
theorem dX5_isSaying_15 : decode cX5_isSaying 15 = .ok (.ireturn, 1) := by decide +kernel
theorem dX5_isKind_0 : decode cX5_isKind 0 = .ok (.iload_n 0, 1) := by decide +kernel
theorem dX5_isKind_1 : decode cX5_isKind 1 = .ok (.ifCond .lt 12, 3) := by decide +kernel
theorem dX5_isKind_4 : decode cX5_isKind 4 = .ok (.iload_n 0, 1) := by decide +kernel
theorem dX5_isKind_5 : decode cX5_isKind 5 = .ok (.iconst 4, 1) := by decide +kernel
theorem dX5_isKind_6 : decode cX5_isKind 6 = .ok (.if_icmp .gt 7, 3) := by decide +kernel
theorem dX5_isKind_9 : decode cX5_isKind 9 = .ok (.iconst 1, 1) := by decide +kernel
theorem dX5_isKind_10 : decode cX5_isKind 10 = .ok (.goto 4, 3) := by decide +kernel
theorem dX5_isKind_13 : decode cX5_isKind 13 = .ok (.iconst 0, 1) := by decide +kernel
theorem dX5_isKind_14 : decode cX5_isKind 14 = .ok (.ireturn, 1) := by decide +kernel
theorem dX6_init_0 : decode cX6_init 0 = .ok (.aload_n 0, 1) := by decide +kernel
theorem dX6_init_1 : decode cX6_init 1 = .ok (.invokespecial 1, 3) := by decide +kernel
theorem dX6_init_4 : decode cX6_init 4 = .ok (.aload_n 0, 1) := by decide +kernel
theorem dX6_init_5 : decode cX6_init 5 = .ok (.bipush 12, 2) := by decide +kernel
theorem dX6_init_7 : decode cX6_init 7 = .ok (.newarray .int, 2) := by decide +kernel
theorem dX6_init_9 : decode cX6_init 9 = .ok (.putfield 7, 3) := by decide +kernel
theorem dX6_init_12 : decode cX6_init 12 = .ok (.aload_n 0, 1) := by decide +kernel
theorem dX6_init_13 : decode cX6_init 13 = .ok (.iconst 3, 1) := by decide +kernel
theorem dX6_init_14 : decode cX6_init 14 = .ok (.newarray .int, 2) := by decide +kernel
theorem dX6_init_16 : decode cX6_init 16 = .ok (.putfield 13, 3) := by decide +kernel
theorem dX6_init_19 : decode cX6_init 19 = .ok (.aload_n 0, 1) := by decide +kernel
theorem dX6_init_20 : decode cX6_init 20 = .ok (.iconst 3, 1) := by decide +kernel
theorem dX6_init_21 : decode cX6_init 21 = .ok (.newarray .int, 2) := by decide +kernel
theorem dX6_init_23 : decode cX6_init 23 = .ok (.putfield 16, 3) := by decide +kernel
theorem dX6_init_26 : decode cX6_init 26 = .ok (.aload_n 0, 1) := by decide +kernel
theorem dX6_init_27 : decode cX6_init 27 = .ok (.bipush 24, 2) := by decide +kernel
theorem dX6_init_29 : decode cX6_init 29 = .ok (.newarray .int, 2) := by decide +kernel
theorem dX6_init_31 : decode cX6_init 31 = .ok (.putfield 19, 3) := by decide +kernel
theorem dX6_init_34 : decode cX6_init 34 = .ok (.aload_n 0, 1) := by decide +kernel
theorem dX6_init_35 : decode cX6_init 35 = .ok (.bipush 6, 2) := by decide +kernel
theorem dX6_init_37 : decode cX6_init 37 = .ok (.newarray .int, 2) := by decide +kernel
theorem dX6_init_39 : decode cX6_init 39 = .ok (.putfield 22, 3) := by decide +kernel
theorem dX6_init_42 : decode cX6_init 42 = .ok (.aload_n 0, 1) := by decide +kernel
theorem dX6_init_43 : decode cX6_init 43 = .ok (.bipush 6, 2) := by decide +kernel
theorem dX6_init_45 : decode cX6_init 45 = .ok (.newarray .int, 2) := by decide +kernel
theorem dX6_init_47 : decode cX6_init 47 = .ok (.putfield 25, 3) := by decide +kernel
theorem dX6_init_50 : decode cX6_init 50 = .ok (.aload_n 0, 1) := by decide +kernel
theorem dX6_init_51 : decode cX6_init 51 = .ok (.iconst 4, 1) := by decide +kernel
theorem dX6_init_52 : decode cX6_init 52 = .ok (.newarray .int, 2) := by decide +kernel
theorem dX6_init_54 : decode cX6_init 54 = .ok (.putfield 28, 3) := by decide +kernel
theorem dX6_init_57 : decode cX6_init 57 = .ok (.aload_n 0, 1) := by decide +kernel
theorem dX6_init_58 : decode cX6_init 58 = .ok (.bipush 24, 2) := by decide +kernel
theorem dX6_init_60 : decode cX6_init 60 = .ok (.newarray .int, 2) := by decide +kernel
theorem dX6_init_62 : decode cX6_init 62 = .ok (.putfield 31, 3) := by decide +kernel
theorem dX6_init_65 : decode cX6_init 65 = .ok (.aload_n 0, 1) := by decide +kernel
theorem dX6_init_66 : decode cX6_init 66 = .ok (.bipush 24, 2) := by decide +kernel
theorem dX6_init_68 : decode cX6_init 68 = .ok (.newarray .int, 2) := by decide +kernel
theorem dX6_init_70 : decode cX6_init 70 = .ok (.putfield 34, 3) := by decide +kernel
theorem dX6_init_73 : decode cX6_init 73 = .ok (.aload_n 0, 1) := by decide +kernel
theorem dX6_init_74 : decode cX6_init 74 = .ok (.iconst 3, 1) := by decide +kernel
theorem dX6_init_75 : decode cX6_init 75 = .ok (.newarray .int, 2) := by decide +kernel
theorem dX6_init_77 : decode cX6_init 77 = .ok (.putfield 37, 3) := by decide +kernel
theorem dX6_init_80 : decode cX6_init 80 = .ok (.aload_n 0, 1) := by decide +kernel
theorem dX6_init_81 : decode cX6_init 81 = .ok (.bipush 24, 2) := by decide +kernel
theorem dX6_init_83 : decode cX6_init 83 = .ok (.newarray .int, 2) := by decide +kernel
theorem dX6_init_85 : decode cX6_init 85 = .ok (.putfield 40, 3) := by decide +kernel
theorem dX6_init_88 : decode cX6_init 88 = .ok (.aload_n 0, 1) := by decide +kernel
theorem dX6_init_89 : decode cX6_init 89 = .ok (.iconst 3, 1) := by decide +kernel
theorem dX6_init_90 : decode cX6_init 90 = .ok (.newarray .int, 2) := by decide +kernel
theorem dX6_init_92 : decode cX6_init 92 = .ok (.putfield 43, 3) := by decide +kernel
theorem dX6_init_95 : decode cX6_init 95 = .ok (.aload_n 0, 1) := by decide +kernel
theorem dX6_init_96 : decode cX6_init 96 = .ok (.bipush 24, 2) := by decide +kernel
theorem dX6_init_98 : decode cX6_init 98 = .ok (.newarray .int, 2) := by decide +kernel
theorem dX6_init_100 : decode cX6_init 100 = .ok (.putfield 46, 3) := by decide +kernel
theorem dX6_init_103 : decode cX6_init 103 = .ok (.aload_n 0, 1) := by decide +kernel
theorem dX6_init_104 : decode cX6_init 104 = .ok (.iconst (-1), 1) := by decide +kernel
theorem dX6_init_105 : decode cX6_init 105 = .ok (.putfield 49, 3) := by decide +kernel
theorem dX6_init_108 : decode cX6_init 108 = .ok (.return_, 1) := by decide +kernel
theorem dX6_in_0 : decode cX6_in 0 = .ok (.lload_n 0, 1) := by decide +kernel
theorem dX6_in_1 : decode cX6_in 1 = .ok (.lload_n 2, 1) := by decide +kernel
theorem dX6_in_2 : decode cX6_in 2 = .ok (.lcmp, 1) := by decide +kernel
theorem dX6_in_3 : decode cX6_in 3 = .ok (.ifCond .lt 14, 3) := by decide +kernel
theorem dX6_in_6 : decode cX6_in 6 = .ok (.lload_n 0, 1) := by decide +kernel
theorem dX6_in_7 : decode cX6_in 7 = .ok (.lload 4, 2) := by decide +kernel
theorem dX6_in_9 : decode cX6_in 9 = .ok (.lcmp, 1) := by decide +kernel
theorem dX6_in_10 : decode cX6_in 10 = .ok (.ifCond .gt 7, 3) := by decide +kernel
theorem dX6_in_13 : decode cX6_in 13 = .ok (.iconst 1, 1) := by decide +kernel
theorem dX6_in_14 : decode cX6_in 14 = .ok (.goto 4, 3) := by decide +kernel
theorem dX6_in_17 : decode cX6_in 17 = .ok (.iconst 0, 1) := by decide +kernel
theorem dX6_in_18 : decode cX6_in 18 = .ok (.ireturn, 1) := by decide +kernel
theorem dX6_copy_0 : decode cX6_copy 0 = .ok (.iconst 0, 1) := by decide +kernel
theorem dX6_copy_1 : decode cX6_copy 1 = .ok (.istore_n 2, 1) := by decide +kernel
theorem dX6_copy_2 : decode cX6_copy 2 = .ok (.iload_n 2, 1) := by decide +kernel
theorem dX6_copy_3 : decode cX6_copy 3 = .ok (.aload_n 0, 1) := by decide +kernel
theorem dX6_copy_4 : decode cX6_copy 4 = .ok (.arraylength, 1) := by decide +kernel
theorem dX6_copy_5 : decode cX6_copy 5 = .ok (.if_icmp .ge 15, 3) := by decide +kernel
theorem dX6_copy_8 : decode cX6_copy 8 = .ok (.aload_n 1, 1) := by decide +kernel
theorem dX6_copy_9 : decode cX6_copy 9 = .ok (.iload_n 2, 1) := by decide +kernel
theorem dX6_copy_10 : decode cX6_copy 10 = .ok (.aload_n 0, 1) := by decide +kernel
theorem dX6_copy_11 : decode cX6_copy 11 = .ok (.iload_n 2, 1) := by decide +kernel
theorem dX6_copy_12 : decode cX6_copy 12 = .ok (.iaload, 1) := by decide +kernel
theorem dX6_copy_13 : decode cX6_copy 13 = .ok (.iastore, 1) := by decide +kernel
theorem dX6_copy_14 : decode cX6_copy 14 = .ok (.iinc 2 1, 3) := by decide +kernel
theorem dX6_copy_17 : decode cX6_copy 17 = .ok (.goto (-15), 3) := by decide +kernel
theorem dX6_copy_20 : decode cX6_copy 20 = .ok (.return_, 1) := by decide +kernel
theorem dX6_ones_0 : decode cX6_ones 0 = .ok (.iconst 0, 1) := by decide +kernel
theorem dX6_ones_1 : decode cX6_ones 1 = .ok (.istore_n 1, 1) := by decide +kernel
theorem dX6_ones_2 : decode cX6_ones 2 = .ok (.iconst 0, 1) := by decide +kernel
theorem dX6_ones_3 : decode cX6_ones 3 = .ok (.istore_n 2, 1) := by decide +kernel
theorem dX6_ones_4 : decode cX6_ones 4 = .ok (.iload_n 2, 1) := by decide +kernel
theorem dX6_ones_5 : decode cX6_ones 5 = .ok (.bipush 6, 2) := by decide +kernel
theorem dX6_ones_7 : decode cX6_ones 7 = .ok (.if_icmp .ge 17, 3) := by decide +kernel
theorem dX6_ones_10 : decode cX6_ones 10 = .ok (.iload_n 1, 1) := by decide +kernel
theorem dX6_ones_11 : decode cX6_ones 11 = .ok (.iload_n 0, 1) := by decide +kernel
theorem dX6_ones_12 : decode cX6_ones 12 = .ok (.iload_n 2, 1) := by decide +kernel
theorem dX6_ones_13 : decode cX6_ones 13 = .ok (.ishr, 1) := by decide +kernel
theorem dX6_ones_14 : decode cX6_ones 14 = .ok (.iconst 1, 1) := by decide +kernel
theorem dX6_ones_15 : decode cX6_ones 15 = .ok (.iand, 1) := by decide +kernel
theorem dX6_ones_16 : decode cX6_ones 16 = .ok (.iadd, 1) := by decide +kernel
theorem dX6_ones_17 : decode cX6_ones 17 = .ok (.istore_n 1, 1) := by decide +kernel
theorem dX6_ones_18 : decode cX6_ones 18 = .ok (.iinc 2 1, 3) := by decide +kernel
theorem dX6_ones_21 : decode cX6_ones 21 = .ok (.goto (-17), 3) := by decide +kernel
theorem dX6_ones_24 : decode cX6_ones 24 = .ok (.iload_n 1, 1) := by decide +kernel
theorem dX6_ones_25 : decode cX6_ones 25 = .ok (.ireturn, 1) := by decide +kernel
theorem dX6_letter_0 : decode cX6_letter 0 = .ok (.iload_n 1, 1) := by decide +kernel
theorem dX6_letter_1 : decode cX6_letter 1 = .ok (.i2l, 1) := by decide +kernel
theorem dX6_letter_2 : decode cX6_letter 2 = .ok (.lconst 1, 1) := by decide +kernel
theorem dX6_letter_3 : decode cX6_letter 3 = .ok (.ldc2_w 53, 3) := by decide +kernel
theorem dX6_letter_6 : decode cX6_letter 6 = .ok (.invokestatic 55, 3) := by decide +kernel
theorem dX6_letter_9 : decode cX6_letter 9 = .ok (.ifCond .ne 6, 3) := by decide +kernel
theorem dX6_letter_12 : decode cX6_letter 12 = .ok (.bipush (-102), 2) := by decide +kernel
theorem dX6_letter_14 : decode cX6_letter 14 = .ok (.ireturn, 1) := by decide +kernel
theorem dX6_letter_15 : decode cX6_letter 15 = .ok (.aload_n 0, 1) := by decide +kernel
theorem dX6_letter_16 : decode cX6_letter 16 = .ok (.getfield 59, 3) := by decide +kernel
theorem dX6_letter_19 : decode cX6_letter 19 = .ok (.bipush 12, 2) := by decide +kernel
theorem dX6_letter_21 : decode cX6_letter 21 = .ok (.if_icmp .ne 6, 3) := by decide +kernel
theorem dX6_letter_24 : decode cX6_letter 24 = .ok (.bipush (-104), 2) := by decide +kernel
theorem dX6_letter_26 : decode cX6_letter 26 = .ok (.ireturn, 1) := by decide +kernel
theorem dX6_letter_27 : decode cX6_letter 27 = .ok (.aload_n 0, 1) := by decide +kernel
theorem dX6_letter_28 : decode cX6_letter 28 = .ok (.getfield 7, 3) := by decide +kernel
theorem dX6_letter_31 : decode cX6_letter 31 = .ok (.aload_n 0, 1) := by decide +kernel
theorem dX6_letter_32 : decode cX6_letter 32 = .ok (.getfield 59, 3) := by decide +kernel
theorem dX6_letter_35 : decode cX6_letter 35 = .ok (.iload_n 1, 1) := by decide +kernel
theorem dX6_letter_36 : decode cX6_letter 36 = .ok (.iastore, 1) := by decide +kernel
theorem dX6_letter_37 : decode cX6_letter 37 = .ok (.aload_n 0, 1) := by decide +kernel
theorem dX6_letter_38 : decode cX6_letter 38 = .ok (.dup, 1) := by decide +kernel
theorem dX6_letter_39 : decode cX6_letter 39 = .ok (.getfield 59, 3) := by decide +kernel
theorem dX6_letter_42 : decode cX6_letter 42 = .ok (.iconst 1, 1) := by decide +kernel
theorem dX6_letter_43 : decode cX6_letter 43 = .ok (.iadd, 1) := by decide +kernel
theorem dX6_letter_44 : decode cX6_letter 44 = .ok (.putfield 59, 3) := by decide +kernel
theorem dX6_letter_47 : decode cX6_letter 47 = .ok (.aload_n 0, 1) := by decide +kernel
theorem dX6_letter_48 : decode cX6_letter 48 = .ok (.getfield 59, 3) := by decide +kernel
theorem dX6_letter_51 : decode cX6_letter 51 = .ok (.ireturn, 1) := by decide +kernel
theorem dX6_blank_0 : decode cX6_blank 0 = .ok (.aload_n 0, 1) := by decide +kernel
theorem dX6_blank_1 : decode cX6_blank 1 = .ok (.getfield 59, 3) := by decide +kernel
theorem dX6_blank_4 : decode cX6_blank 4 = .ok (.istore_n 1, 1) := by decide +kernel
theorem dX6_blank_5 : decode cX6_blank 5 = .ok (.aload_n 0, 1) := by decide +kernel
theorem dX6_blank_6 : decode cX6_blank 6 = .ok (.iconst 0, 1) := by decide +kernel
theorem dX6_blank_7 : decode cX6_blank 7 = .ok (.putfield 59, 3) := by decide +kernel
theorem dX6_blank_10 : decode cX6_blank 10 = .ok (.iload_n 1, 1) := by decide +kernel
theorem dX6_blank_11 : decode cX6_blank 11 = .ok (.ireturn, 1) := by decide +kernel
theorem dX6_isGood_0 : decode cX6_isGood 0 = .ok (.iload_n 1, 1) := by decide +kernel
theorem dX6_isGood_1 : decode cX6_isGood 1 = .ok (.bipush 48, 2) := by decide +kernel
theorem dX6_isGood_3 : decode cX6_isGood 3 = .ok (.isub, 1) := by decide +kernel
theorem dX6_isGood_4 : decode cX6_isGood 4 = .ok (.istore_n 2, 1) := by decide +kernel
theorem dX6_isGood_5 : decode cX6_isGood 5 = .ok (.iload_n 0, 1) := by decide +kernel
theorem dX6_isGood_6 : decode cX6_isGood 6 = .ok (.bipush 7, 2) := by decide +kernel
theorem dX6_isGood_8 : decode cX6_isGood 8 = .ok (.if_icmp .le 47, 3) := by decide +kernel
theorem dX6_isGood_11 : decode cX6_isGood 11 = .ok (.iload_n 0, 1) := by decide +kernel
theorem dX6_isGood_12 : decode cX6_isGood 12 = .ok (.bipush 8, 2) := by decide +kernel
theorem dX6_isGood_14 : decode cX6_isGood 14 = .ok (.if_icmp .ne 17, 3) := by decide +kernel
theorem dX6_isGood_17 : decode cX6_isGood 17 = .ok (.iload_n 1, 1) := by decide +kernel
theorem dX6_isGood_18 : decode cX6_isGood 18 = .ok (.bipush 59, 2) := by decide +kernel
theorem dX6_isGood_20 : decode cX6_isGood 20 = .ok (.if_icmp .ne 7, 3) := by decide +kernel
theorem dX6_isGood_23 : decode cX6_isGood 23 = .ok (.iconst 1, 1) := by decide +kernel
theorem dX6_isGood_24 : decode cX6_isGood 24 = .ok (.goto 30, 3) := by decide +kernel
theorem dX6_isGood_27 : decode cX6_isGood 27 = .ok (.iconst 0, 1) := by decide +kernel
theorem dX6_isGood_28 : decode cX6_isGood 28 = .ok (.goto 26, 3) := by decide +kernel
theorem dX6_isGood_31 : decode cX6_isGood 31 = .ok (.iload_n 0, 1) := by decide +kernel
theorem dX6_isGood_32 : decode cX6_isGood 32 = .ok (.bipush 9, 2) := by decide +kernel
theorem dX6_isGood_34 : decode cX6_isGood 34 = .ok (.if_icmp .ne 19, 3) := by decide +kernel
theorem dX6_isGood_37 : decode cX6_isGood 37 = .ok (.iload_n 2, 1) := by decide +kernel
theorem dX6_isGood_38 : decode cX6_isGood 38 = .ok (.i2l, 1) := by decide +kernel
theorem dX6_isGood_39 : decode cX6_isGood 39 = .ok (.lconst 0, 1) := by decide +kernel
theorem dX6_isGood_40 : decode cX6_isGood 40 = .ok (.ldc2_w 62, 3) := by decide +kernel
theorem dX6_isGood_43 : decode cX6_isGood 43 = .ok (.invokestatic 55, 3) := by decide +kernel
theorem dX6_isGood_46 : decode cX6_isGood 46 = .ok (.ifCond .eq 7, 3) := by decide +kernel
theorem dX6_isGood_49 : decode cX6_isGood 49 = .ok (.iconst 1, 1) := by decide +kernel
theorem dX6_isGood_50 : decode cX6_isGood 50 = .ok (.goto 4, 3) := by decide +kernel
theorem dX6_isGood_53 : decode cX6_isGood 53 = .ok (.iconst 0, 1) := by decide +kernel
theorem dX6_isGood_54 : decode cX6_isGood 54 = .ok (.ireturn, 1) := by decide +kernel
theorem dX6_isGood_55 : decode cX6_isGood 55 = .ok (.iload_n 0, 1) := by decide +kernel
theorem dX6_isGood_56 : decode cX6_isGood 56 = .ok (.iconst 3, 1) := by decide +kernel
theorem dX6_isGood_57 : decode cX6_isGood 57 = .ok (.irem, 1) := by decide +kernel
theorem dX6_isGood_58 : decode cX6_isGood 58 = .ok (.iconst 2, 1) := by decide +kernel
theorem dX6_isGood_59 : decode cX6_isGood 59 = .ok (.if_icmp .ne 17, 3) := by decide +kernel
theorem dX6_isGood_62 : decode cX6_isGood 62 = .ok (.iload_n 1, 1) := by decide +kernel
theorem dX6_isGood_63 : decode cX6_isGood 63 = .ok (.bipush 44, 2) := by decide +kernel
theorem dX6_isGood_65 : decode cX6_isGood 65 = .ok (.if_icmp .ne 7, 3) := by decide +kernel
theorem dX6_isGood_68 : decode cX6_isGood 68 = .ok (.iconst 1, 1) := by decide +kernel
theorem dX6_isGood_69 : decode cX6_isGood 69 = .ok (.goto 16, 3) := by decide +kernel
theorem dX6_isGood_72 : decode cX6_isGood 72 = .ok (.iconst 0, 1) := by decide +kernel
theorem dX6_isGood_73 : decode cX6_isGood 73 = .ok (.goto 12, 3) := by decide +kernel
theorem dX6_isGood_76 : decode cX6_isGood 76 = .ok (.iload_n 2, 1) := by decide +kernel
theorem dX6_isGood_77 : decode cX6_isGood 77 = .ok (.i2l, 1) := by decide +kernel
theorem dX6_isGood_78 : decode cX6_isGood 78 = .ok (.lconst 0, 1) := by decide +kernel
theorem dX6_isGood_79 : decode cX6_isGood 79 = .ok (.ldc2_w 64, 3) := by decide +kernel
theorem dX6_isGood_82 : decode cX6_isGood 82 = .ok (.invokestatic 55, 3) := by decide +kernel
theorem dX6_isGood_85 : decode cX6_isGood 85 = .ok (.ireturn, 1) := by decide +kernel
theorem dX6_faultOf_0 : decode cX6_faultOf 0 = .ok (.iconst 0, 1) := by decide +kernel
theorem dX6_faultOf_1 : decode cX6_faultOf 1 = .ok (.istore_n 1, 1) := by decide +kernel
theorem dX6_faultOf_2 : decode cX6_faultOf 2 = .ok (.iload_n 1, 1) := by decide +kernel
theorem dX6_faultOf_3 : decode cX6_faultOf 3 = .ok (.aload_n 0, 1) := by decide +kernel
theorem dX6_faultOf_4 : decode cX6_faultOf 4 = .ok (.getfield 59, 3) := by decide +kernel
theorem dX6_faultOf_7 : decode cX6_faultOf 7 = .ok (.if_icmp .ge 22, 3) := by decide +kernel
theorem dX6_faultOf_10 : decode cX6_faultOf 10 = .ok (.iload_n 1, 1) := by decide +kernel
theorem dX6_faultOf_11 : decode cX6_faultOf 11 = .ok (.aload_n 0, 1) := by decide +kernel
theorem dX6_faultOf_12 : decode cX6_faultOf 12 = .ok (.getfield 7, 3) := by decide +kernel
theorem dX6_faultOf_15 : decode cX6_faultOf 15 = .ok (.iload_n 1, 1) := by decide +kernel
theorem dX6_faultOf_16 : decode cX6_faultOf 16 = .ok (.iaload, 1) := by decide +kernel
theorem dX6_faultOf_17 : decode cX6_faultOf 17 = .ok (.invokestatic 66, 3) := by decide +kernel
theorem dX6_faultOf_20 : decode cX6_faultOf 20 = .ok (.ifCond .eq 9, 3) := by decide +kernel
theorem dX6_faultOf_23 : decode cX6_faultOf 23 = .ok (.iinc 1 1, 3) := by decide +kernel
theorem dX6_faultOf_26 : decode cX6_faultOf 26 = .ok (.goto (-24), 3) := by decide +kernel
theorem dX6_faultOf_29 : decode cX6_faultOf 29 = .ok (.iload_n 1, 1) := by decide +kernel
theorem dX6_faultOf_30 : decode cX6_faultOf 30 = .ok (.ireturn, 1) := by decide +kernel
theorem dX6_fault_0 : decode cX6_fault 0 = .ok (.aload_n 0, 1) := by decide +kernel
theorem dX6_fault_1 : decode cX6_fault 1 = .ok (.invokevirtual 70, 3) := by decide +kernel
theorem dX6_fault_4 : decode cX6_fault 4 = .ok (.ireturn, 1) := by decide +kernel
theorem dX6_trueAll_0 : decode cX6_trueAll 0 = .ok (.iconst 0, 1) := by decide +kernel
theorem dX6_trueAll_1 : decode cX6_trueAll 1 = .ok (.istore_n 1, 1) := by decide +kernel
theorem dX6_trueAll_2 : decode cX6_trueAll 2 = .ok (.iconst 0, 1) := by decide +kernel
theorem dX6_trueAll_3 : decode cX6_trueAll 3 = .ok (.istore_n 2, 1) := by decide +kernel
theorem dX6_trueAll_4 : decode cX6_trueAll 4 = .ok (.iload_n 2, 1) := by decide +kernel
theorem dX6_trueAll_5 : decode cX6_trueAll 5 = .ok (.iconst 3, 1) := by decide +kernel
theorem dX6_trueAll_6 : decode cX6_trueAll 6 = .ok (.if_icmp .ge 21, 3) := by decide +kernel
theorem dX6_trueAll_9 : decode cX6_trueAll 9 = .ok (.iload_n 1, 1) := by decide +kernel
theorem dX6_trueAll_10 : decode cX6_trueAll 10 = .ok (.aload_n 0, 1) := by decide +kernel
theorem dX6_trueAll_11 : decode cX6_trueAll 11 = .ok (.getfield 13, 3) := by decide +kernel
theorem dX6_trueAll_14 : decode cX6_trueAll 14 = .ok (.iload_n 2, 1) := by decide +kernel
theorem dX6_trueAll_15 : decode cX6_trueAll 15 = .ok (.iaload, 1) := by decide +kernel
theorem dX6_trueAll_16 : decode cX6_trueAll 16 = .ok (.invokestatic 74, 3) := by decide +kernel
theorem dX6_trueAll_19 : decode cX6_trueAll 19 = .ok (.iadd, 1) := by decide +kernel
theorem dX6_trueAll_20 : decode cX6_trueAll 20 = .ok (.istore_n 1, 1) := by decide +kernel
theorem dX6_trueAll_21 : decode cX6_trueAll 21 = .ok (.iinc 2 1, 3) := by decide +kernel
theorem dX6_trueAll_24 : decode cX6_trueAll 24 = .ok (.goto (-20), 3) := by decide +kernel
theorem dX6_trueAll_27 : decode cX6_trueAll 27 = .ok (.iload_n 1, 1) := by decide +kernel
theorem dX6_trueAll_28 : decode cX6_trueAll 28 = .ok (.ireturn, 1) := by decide +kernel
theorem dX6_town_0 : decode cX6_town 0 = .ok (.aload_n 0, 1) := by decide +kernel
theorem dX6_town_1 : decode cX6_town 1 = .ok (.getfield 59, 3) := by decide +kernel
theorem dX6_town_4 : decode cX6_town 4 = .ok (.bipush 10, 2) := by decide +kernel
theorem dX6_town_6 : decode cX6_town 6 = .ok (.if_icmp .ne 12, 3) := by decide +kernel
theorem dX6_town_9 : decode cX6_town 9 = .ok (.aload_n 0, 1) := by decide +kernel
theorem dX6_town_10 : decode cX6_town 10 = .ok (.invokevirtual 70, 3) := by decide +kernel
theorem dX6_town_13 : decode cX6_town 13 = .ok (.bipush 10, 2) := by decide +kernel
theorem dX6_town_15 : decode cX6_town 15 = .ok (.if_icmp .ge 6, 3) := by decide +kernel
theorem dX6_town_18 : decode cX6_town 18 = .ok (.bipush (-103), 2) := by decide +kernel
theorem dX6_town_20 : decode cX6_town 20 = .ok (.ireturn, 1) := by decide +kernel
theorem dX6_town_21 : decode cX6_town 21 = .ok (.iconst 0, 1) := by decide +kernel
theorem dX6_town_22 : decode cX6_town 22 = .ok (.istore_n 1, 1) := by decide +kernel
theorem dX6_town_23 : decode cX6_town 23 = .ok (.iload_n 1, 1) := by decide +kernel
theorem dX6_town_24 : decode cX6_town 24 = .ok (.iconst 3, 1) := by decide +kernel
theorem dX6_town_25 : decode cX6_town 25 = .ok (.if_icmp .ge 50, 3) := by decide +kernel
theorem dX6_town_28 : decode cX6_town 28 = .ok (.aload_n 0, 1) := by decide +kernel
theorem dX6_town_29 : decode cX6_town 29 = .ok (.getfield 13, 3) := by decide +kernel
theorem dX6_town_32 : decode cX6_town 32 = .ok (.iload_n 1, 1) := by decide +kernel
theorem dX6_town_33 : decode cX6_town 33 = .ok (.bipush 8, 2) := by decide +kernel
theorem dX6_town_35 : decode cX6_town 35 = .ok (.aload_n 0, 1) := by decide +kernel
theorem dX6_town_36 : decode cX6_town 36 = .ok (.getfield 7, 3) := by decide +kernel
theorem dX6_town_39 : decode cX6_town 39 = .ok (.iconst 3, 1) := by decide +kernel
theorem dX6_town_40 : decode cX6_town 40 = .ok (.iload_n 1, 1) := by decide +kernel
theorem dX6_town_41 : decode cX6_town 41 = .ok (.imul, 1) := by decide +kernel
theorem dX6_town_42 : decode cX6_town 42 = .ok (.iaload, 1) := by decide +kernel
theorem dX6_town_43 : decode cX6_town 43 = .ok (.bipush 48, 2) := by decide +kernel
theorem dX6_town_45 : decode cX6_town 45 = .ok (.isub, 1) := by decide +kernel
theorem dX6_town_46 : decode cX6_town 46 = .ok (.imul, 1) := by decide +kernel
theorem dX6_town_47 : decode cX6_town 47 = .ok (.aload_n 0, 1) := by decide +kernel
theorem dX6_town_48 : decode cX6_town 48 = .ok (.getfield 7, 3) := by decide +kernel
theorem dX6_town_51 : decode cX6_town 51 = .ok (.iconst 3, 1) := by decide +kernel
theorem dX6_town_52 : decode cX6_town 52 = .ok (.iload_n 1, 1) := by decide +kernel
theorem dX6_town_53 : decode cX6_town 53 = .ok (.imul, 1) := by decide +kernel
theorem dX6_town_54 : decode cX6_town 54 = .ok (.iconst 1, 1) := by decide +kernel
theorem dX6_town_55 : decode cX6_town 55 = .ok (.iadd, 1) := by decide +kernel
theorem dX6_town_56 : decode cX6_town 56 = .ok (.iaload, 1) := by decide +kernel
theorem dX6_town_57 : decode cX6_town 57 = .ok (.iadd, 1) := by decide +kernel
theorem dX6_town_58 : decode cX6_town 58 = .ok (.bipush 48, 2) := by decide +kernel
theorem dX6_town_60 : decode cX6_town 60 = .ok (.isub, 1) := by decide +kernel
theorem dX6_town_61 : decode cX6_town 61 = .ok (.iastore, 1) := by decide +kernel
theorem dX6_town_62 : decode cX6_town 62 = .ok (.aload_n 0, 1) := by decide +kernel
theorem dX6_town_63 : decode cX6_town 63 = .ok (.getfield 16, 3) := by decide +kernel
theorem dX6_town_66 : decode cX6_town 66 = .ok (.iload_n 1, 1) := by decide +kernel
theorem dX6_town_67 : decode cX6_town 67 = .ok (.iconst 0, 1) := by decide +kernel
theorem dX6_town_68 : decode cX6_town 68 = .ok (.iastore, 1) := by decide +kernel
theorem dX6_town_69 : decode cX6_town 69 = .ok (.iinc 1 1, 3) := by decide +kernel
theorem dX6_town_72 : decode cX6_town 72 = .ok (.goto (-49), 3) := by decide +kernel
theorem dX6_town_75 : decode cX6_town 75 = .ok (.aload_n 0, 1) := by decide +kernel
theorem dX6_town_76 : decode cX6_town 76 = .ok (.aload_n 0, 1) := by decide +kernel
theorem dX6_town_77 : decode cX6_town 77 = .ok (.getfield 7, 3) := by decide +kernel
theorem dX6_town_80 : decode cX6_town 80 = .ok (.bipush 9, 2) := by decide +kernel
theorem dX6_town_82 : decode cX6_town 82 = .ok (.iaload, 1) := by decide +kernel
theorem dX6_town_83 : decode cX6_town 83 = .ok (.bipush 48, 2) := by decide +kernel
theorem dX6_town_85 : decode cX6_town 85 = .ok (.isub, 1) := by decide +kernel
theorem dX6_town_86 : decode cX6_town 86 = .ok (.putfield 78, 3) := by decide +kernel
theorem dX6_town_89 : decode cX6_town 89 = .ok (.aload_n 0, 1) := by decide +kernel
theorem dX6_town_90 : decode cX6_town 90 = .ok (.iconst 1, 1) := by decide +kernel
theorem dX6_town_91 : decode cX6_town 91 = .ok (.putfield 81, 3) := by decide +kernel
theorem dX6_town_94 : decode cX6_town 94 = .ok (.aload_n 0, 1) := by decide +kernel
theorem dX6_town_95 : decode cX6_town 95 = .ok (.iconst 0, 1) := by decide +kernel
theorem dX6_town_96 : decode cX6_town 96 = .ok (.putfield 85, 3) := by decide +kernel
theorem dX6_town_99 : decode cX6_town 99 = .ok (.aload_n 0, 1) := by decide +kernel
theorem dX6_town_100 : decode cX6_town 100 = .ok (.iconst 0, 1) := by decide +kernel
theorem dX6_town_101 : decode cX6_town 101 = .ok (.putfield 88, 3) := by decide +kernel
theorem dX6_town_104 : decode cX6_town 104 = .ok (.aload_n 0, 1) := by decide +kernel
theorem dX6_town_105 : decode cX6_town 105 = .ok (.iconst 0, 1) := by decide +kernel
theorem dX6_town_106 : decode cX6_town 106 = .ok (.putfield 91, 3) := by decide +kernel
theorem dX6_town_109 : decode cX6_town 109 = .ok (.aload_n 0, 1) := by decide +kernel
theorem dX6_town_110 : decode cX6_town 110 = .ok (.dup, 1) := by decide +kernel
theorem dX6_town_111 : decode cX6_town 111 = .ok (.getfield 94, 3) := by decide +kernel
theorem dX6_town_114 : decode cX6_town 114 = .ok (.iconst 1, 1) := by decide +kernel
theorem dX6_town_115 : decode cX6_town 115 = .ok (.iadd, 1) := by decide +kernel
theorem dX6_town_116 : decode cX6_town 116 = .ok (.putfield 94, 3) := by decide +kernel
theorem dX6_town_119 : decode cX6_town 119 = .ok (.aload_n 0, 1) := by decide +kernel
theorem dX6_town_120 : decode cX6_town 120 = .ok (.iconst 0, 1) := by decide +kernel
theorem dX6_town_121 : decode cX6_town 121 = .ok (.putfield 59, 3) := by decide +kernel
theorem dX6_town_124 : decode cX6_town 124 = .ok (.aload_n 0, 1) := by decide +kernel
theorem dX6_town_125 : decode cX6_town 125 = .ok (.invokevirtual 97, 3) := by decide +kernel
theorem dX6_town_128 : decode cX6_town 128 = .ok (.ireturn, 1) := by decide +kernel
theorem dX6_isVictim_0 : decode cX6_isVictim 0 = .ok (.aload_n 0, 1) := by decide +kernel
theorem dX6_isVictim_1 : decode cX6_isVictim 1 = .ok (.getfield 81, 3) := by decide +kernel
theorem dX6_isVictim_4 : decode cX6_isVictim 4 = .ok (.ifCond .eq 19, 3) := by decide +kernel
theorem dX6_isVictim_7 : decode cX6_isVictim 7 = .ok (.iload_n 1, 1) := by decide +kernel
theorem dX6_isVictim_8 : decode cX6_isVictim 8 = .ok (.i2l, 1) := by decide +kernel
theorem dX6_isVictim_9 : decode cX6_isVictim 9 = .ok (.lconst 0, 1) := by decide +kernel
theorem dX6_isVictim_10 : decode cX6_isVictim 10 = .ok (.ldc2_w 100, 3) := by decide +kernel
theorem dX6_isVictim_13 : decode cX6_isVictim 13 = .ok (.invokestatic 55, 3) := by decide +kernel
theorem dX6_isVictim_16 : decode cX6_isVictim 16 = .ok (.ifCond .eq 7, 3) := by decide +kernel
theorem dX6_isVictim_19 : decode cX6_isVictim 19 = .ok (.iconst 1, 1) := by decide +kernel
theorem dX6_isVictim_20 : decode cX6_isVictim 20 = .ok (.goto 4, 3) := by decide +kernel
theorem dX6_isVictim_23 : decode cX6_isVictim 23 = .ok (.iconst 0, 1) := by decide +kernel
theorem dX6_isVictim_24 : decode cX6_isVictim 24 = .ok (.ireturn, 1) := by decide +kernel
theorem dX6_isSaying_0 : decode cX6_isSaying 0 = .ok (.iload_n 0, 1) := by decide +kernel
theorem dX6_isSaying_1 : decode cX6_isSaying 1 = .ok (.i2l, 1) := by decide +kernel
theorem dX6_isSaying_2 : decode cX6_isSaying 2 = .ok (.lconst 0, 1) := by decide +kernel
theorem dX6_isSaying_3 : decode cX6_isSaying 3 = .ok (.ldc2_w 102, 3) := by decide +kernel
theorem dX6_isSaying_6 : decode cX6_isSaying 6 = .ok (.invokestatic 55, 3) := by decide +kernel
theorem dX6_isSaying_9 : decode cX6_isSaying 9 = .ok (.ireturn, 1) := by decide +kernel
theorem dX6_isConvict_0 : decode cX6_isConvict 0 = .ok (.iload_n 1, 1) := by decide +kernel
theorem dX6_isConvict_1 : decode cX6_isConvict 1 = .ok (.i2l, 1) := by decide +kernel
theorem dX6_isConvict_2 : decode cX6_isConvict 2 = .ok (.lconst 0, 1) := by decide +kernel
theorem dX6_isConvict_3 : decode cX6_isConvict 3 = .ok (.aload_n 0, 1) := by decide +kernel
theorem dX6_isConvict_4 : decode cX6_isConvict 4 = .ok (.getfield 88, 3) := by decide +kernel
theorem dX6_isConvict_7 : decode cX6_isConvict 7 = .ok (.iconst 1, 1) := by decide +kernel
theorem dX6_isConvict_8 : decode cX6_isConvict 8 = .ok (.isub, 1) := by decide +kernel
theorem dX6_isConvict_9 : decode cX6_isConvict 9 = .ok (.i2l, 1) := by decide +kernel
theorem dX6_isConvict_10 : decode cX6_isConvict 10 = .ok (.invokestatic 55, 3) := by decide +kernel
theorem dX6_isConvict_13 : decode cX6_isConvict 13 = .ok (.ireturn, 1) := by decide +kernel
theorem dX6_aDay_0 : decode cX6_aDay 0 = .ok (.iload_n 0, 1) := by decide +kernel
theorem dX6_aDay_1 : decode cX6_aDay 1 = .ok (.iconst 1, 1) := by decide +kernel
theorem dX6_aDay_2 : decode cX6_aDay 2 = .ok (.if_icmp .ne 7, 3) := by decide +kernel
theorem dX6_aDay_5 : decode cX6_aDay 5 = .ok (.iconst 2, 1) := by decide +kernel
theorem dX6_aDay_6 : decode cX6_aDay 6 = .ok (.goto 13, 3) := by decide +kernel
theorem dX6_aDay_9 : decode cX6_aDay 9 = .ok (.iload_n 0, 1) := by decide +kernel
theorem dX6_aDay_10 : decode cX6_aDay 10 = .ok (.iconst 4, 1) := by decide +kernel
theorem dX6_aDay_11 : decode cX6_aDay 11 = .ok (.if_icmp .ne 7, 3) := by decide +kernel
theorem dX6_aDay_14 : decode cX6_aDay 14 = .ok (.iconst 3, 1) := by decide +kernel
theorem dX6_aDay_15 : decode cX6_aDay 15 = .ok (.goto 4, 3) := by decide +kernel
theorem dX6_aDay_18 : decode cX6_aDay 18 = .ok (.iconst 1, 1) := by decide +kernel
theorem dX6_aDay_19 : decode cX6_aDay 19 = .ok (.ireturn, 1) := by decide +kernel
theorem dX6_tellVictim_0 : decode cX6_tellVictim 0 = .ok (.iconst 0, 1) := by decide +kernel
theorem dX6_tellVictim_1 : decode cX6_tellVictim 1 = .ok (.istore_n 3, 1) := by decide +kernel
theorem dX6_tellVictim_2 : decode cX6_tellVictim 2 = .ok (.iconst 0, 1) := by decide +kernel
theorem dX6_tellVictim_3 : decode cX6_tellVictim 3 = .ok (.istore 4, 2) := by decide +kernel
theorem dX6_tellVictim_5 : decode cX6_tellVictim 5 = .ok (.iconst 0, 1) := by decide +kernel
theorem dX6_tellVictim_6 : decode cX6_tellVictim 6 = .ok (.istore 5, 2) := by decide +kernel
theorem dX6_tellVictim_8 : decode cX6_tellVictim 8 = .ok (.iload 5, 2) := by decide +kernel
theorem dX6_tellVictim_10 : decode cX6_tellVictim 10 = .ok (.aload_n 0, 1) := by decide +kernel
theorem dX6_tellVictim_11 : decode cX6_tellVictim 11 = .ok (.getfield 88, 3) := by decide +kernel
theorem dX6_tellVictim_14 : decode cX6_tellVictim 14 = .ok (.if_icmp .ge 73, 3) := by decide +kernel
theorem dX6_tellVictim_17 : decode cX6_tellVictim 17 = .ok (.iload_n 3, 1) := by decide +kernel
theorem dX6_tellVictim_18 : decode cX6_tellVictim 18 = .ok (.aload_n 0, 1) := by decide +kernel
theorem dX6_tellVictim_19 : decode cX6_tellVictim 19 = .ok (.getfield 19, 3) := by decide +kernel
theorem dX6_tellVictim_22 : decode cX6_tellVictim 22 = .ok (.bipush 6, 2) := by decide +kernel
theorem dX6_tellVictim_24 : decode cX6_tellVictim 24 = .ok (.iload 5, 2) := by decide +kernel
theorem dX6_tellVictim_26 : decode cX6_tellVictim 26 = .ok (.imul, 1) := by decide +kernel
theorem dX6_tellVictim_27 : decode cX6_tellVictim 27 = .ok (.iconst 1, 1) := by decide +kernel
theorem dX6_tellVictim_28 : decode cX6_tellVictim 28 = .ok (.iadd, 1) := by decide +kernel
theorem dX6_tellVictim_29 : decode cX6_tellVictim 29 = .ok (.iaload, 1) := by decide +kernel
theorem dX6_tellVictim_30 : decode cX6_tellVictim 30 = .ok (.iload_n 1, 1) := by decide +kernel
theorem dX6_tellVictim_31 : decode cX6_tellVictim 31 = .ok (.if_icmp .ne 10, 3) := by decide +kernel
theorem dX6_tellVictim_34 : decode cX6_tellVictim 34 = .ok (.iconst 1, 1) := by decide +kernel
theorem dX6_tellVictim_35 : decode cX6_tellVictim 35 = .ok (.iload 5, 2) := by decide +kernel
theorem dX6_tellVictim_37 : decode cX6_tellVictim 37 = .ok (.ishl, 1) := by decide +kernel
theorem dX6_tellVictim_38 : decode cX6_tellVictim 38 = .ok (.goto 4, 3) := by decide +kernel
theorem dX6_tellVictim_41 : decode cX6_tellVictim 41 = .ok (.iconst 0, 1) := by decide +kernel
theorem dX6_tellVictim_42 : decode cX6_tellVictim 42 = .ok (.ior, 1) := by decide +kernel
theorem dX6_tellVictim_43 : decode cX6_tellVictim 43 = .ok (.istore_n 3, 1) := by decide +kernel
theorem dX6_tellVictim_44 : decode cX6_tellVictim 44 = .ok (.iload 4, 2) := by decide +kernel
theorem dX6_tellVictim_46 : decode cX6_tellVictim 46 = .ok (.aload_n 0, 1) := by decide +kernel
theorem dX6_tellVictim_47 : decode cX6_tellVictim 47 = .ok (.getfield 19, 3) := by decide +kernel
theorem dX6_tellVictim_50 : decode cX6_tellVictim 50 = .ok (.bipush 6, 2) := by decide +kernel
theorem dX6_tellVictim_52 : decode cX6_tellVictim 52 = .ok (.iload 5, 2) := by decide +kernel
theorem dX6_tellVictim_54 : decode cX6_tellVictim 54 = .ok (.imul, 1) := by decide +kernel
theorem dX6_tellVictim_55 : decode cX6_tellVictim 55 = .ok (.iconst 1, 1) := by decide +kernel
theorem dX6_tellVictim_56 : decode cX6_tellVictim 56 = .ok (.iadd, 1) := by decide +kernel
theorem dX6_tellVictim_57 : decode cX6_tellVictim 57 = .ok (.iaload, 1) := by decide +kernel
theorem dX6_tellVictim_58 : decode cX6_tellVictim 58 = .ok (.iload_n 1, 1) := by decide +kernel
theorem dX6_tellVictim_59 : decode cX6_tellVictim 59 = .ok (.if_icmp .ne 18, 3) := by decide +kernel
theorem dX6_tellVictim_62 : decode cX6_tellVictim 62 = .ok (.aload_n 0, 1) := by decide +kernel
theorem dX6_tellVictim_63 : decode cX6_tellVictim 63 = .ok (.getfield 19, 3) := by decide +kernel
theorem dX6_tellVictim_66 : decode cX6_tellVictim 66 = .ok (.bipush 6, 2) := by decide +kernel
theorem dX6_tellVictim_68 : decode cX6_tellVictim 68 = .ok (.iload 5, 2) := by decide +kernel
theorem dX6_tellVictim_70 : decode cX6_tellVictim 70 = .ok (.imul, 1) := by decide +kernel
theorem dX6_tellVictim_71 : decode cX6_tellVictim 71 = .ok (.iconst 2, 1) := by decide +kernel
theorem dX6_tellVictim_72 : decode cX6_tellVictim 72 = .ok (.iadd, 1) := by decide +kernel
theorem dX6_tellVictim_73 : decode cX6_tellVictim 73 = .ok (.iaload, 1) := by decide +kernel
theorem dX6_tellVictim_74 : decode cX6_tellVictim 74 = .ok (.goto 4, 3) := by decide +kernel
theorem dX6_tellVictim_77 : decode cX6_tellVictim 77 = .ok (.iconst 0, 1) := by decide +kernel
theorem dX6_tellVictim_78 : decode cX6_tellVictim 78 = .ok (.iadd, 1) := by decide +kernel
theorem dX6_tellVictim_79 : decode cX6_tellVictim 79 = .ok (.istore 4, 2) := by decide +kernel
theorem dX6_tellVictim_81 : decode cX6_tellVictim 81 = .ok (.iinc 5 1, 3) := by decide +kernel
theorem dX6_tellVictim_84 : decode cX6_tellVictim 84 = .ok (.goto (-76), 3) := by decide +kernel
theorem dX6_tellVictim_87 : decode cX6_tellVictim 87 = .ok (.iload_n 2, 1) := by decide +kernel
theorem dX6_tellVictim_88 : decode cX6_tellVictim 88 = .ok (.ifCond .ne 12, 3) := by decide +kernel
theorem dX6_tellVictim_91 : decode cX6_tellVictim 91 = .ok (.aload_n 0, 1) := by decide +kernel
theorem dX6_tellVictim_92 : decode cX6_tellVictim 92 = .ok (.getfield 13, 3) := by decide +kernel
theorem dX6_tellVictim_95 : decode cX6_tellVictim 95 = .ok (.iload_n 1, 1) := by decide +kernel
theorem dX6_tellVictim_96 : decode cX6_tellVictim 96 = .ok (.iaload, 1) := by decide +kernel
theorem dX6_tellVictim_97 : decode cX6_tellVictim 97 = .ok (.goto 38, 3) := by decide +kernel
theorem dX6_tellVictim_100 : decode cX6_tellVictim 100 = .ok (.iload_n 2, 1) := by decide +kernel
theorem dX6_tellVictim_101 : decode cX6_tellVictim 101 = .ok (.iconst 1, 1) := by decide +kernel
theorem dX6_tellVictim_102 : decode cX6_tellVictim 102 = .ok (.if_icmp .ne 12, 3) := by decide +kernel
theorem dX6_tellVictim_105 : decode cX6_tellVictim 105 = .ok (.aload_n 0, 1) := by decide +kernel
theorem dX6_tellVictim_106 : decode cX6_tellVictim 106 = .ok (.getfield 16, 3) := by decide +kernel
theorem dX6_tellVictim_109 : decode cX6_tellVictim 109 = .ok (.iload_n 1, 1) := by decide +kernel
theorem dX6_tellVictim_110 : decode cX6_tellVictim 110 = .ok (.iaload, 1) := by decide +kernel
theorem dX6_tellVictim_111 : decode cX6_tellVictim 111 = .ok (.goto 24, 3) := by decide +kernel
theorem dX6_tellVictim_114 : decode cX6_tellVictim 114 = .ok (.iload_n 2, 1) := by decide +kernel
theorem dX6_tellVictim_115 : decode cX6_tellVictim 115 = .ok (.iconst 2, 1) := by decide +kernel
theorem dX6_tellVictim_116 : decode cX6_tellVictim 116 = .ok (.if_icmp .ne 7, 3) := by decide +kernel
theorem dX6_tellVictim_119 : decode cX6_tellVictim 119 = .ok (.iload_n 3, 1) := by decide +kernel
theorem dX6_tellVictim_120 : decode cX6_tellVictim 120 = .ok (.goto 15, 3) := by decide +kernel
theorem dX6_tellVictim_123 : decode cX6_tellVictim 123 = .ok (.iload_n 2, 1) := by decide +kernel
theorem dX6_tellVictim_124 : decode cX6_tellVictim 124 = .ok (.iconst 3, 1) := by decide +kernel
theorem dX6_tellVictim_125 : decode cX6_tellVictim 125 = .ok (.if_icmp .ne 8, 3) := by decide +kernel
theorem dX6_tellVictim_128 : decode cX6_tellVictim 128 = .ok (.iload 4, 2) := by decide +kernel
theorem dX6_tellVictim_130 : decode cX6_tellVictim 130 = .ok (.goto 5, 3) := by decide +kernel
theorem dX6_tellVictim_133 : decode cX6_tellVictim 133 = .ok (.bipush (-102), 2) := by decide +kernel
theorem dX6_tellVictim_135 : decode cX6_tellVictim 135 = .ok (.ireturn, 1) := by decide +kernel
theorem dX6_victim_0 : decode cX6_victim 0 = .ok (.aload_n 0, 1) := by decide +kernel
theorem dX6_victim_1 : decode cX6_victim 1 = .ok (.iload_n 1, 1) := by decide +kernel
theorem dX6_victim_2 : decode cX6_victim 2 = .ok (.invokevirtual 104, 3) := by decide +kernel
theorem dX6_victim_5 : decode cX6_victim 5 = .ok (.ifCond .eq 12, 3) := by decide +kernel
theorem dX6_victim_8 : decode cX6_victim 8 = .ok (.aload_n 0, 1) := by decide +kernel
theorem dX6_victim_9 : decode cX6_victim 9 = .ok (.iload_n 1, 1) := by decide +kernel
theorem dX6_victim_10 : decode cX6_victim 10 = .ok (.iload_n 2, 1) := by decide +kernel
theorem dX6_victim_11 : decode cX6_victim 11 = .ok (.invokevirtual 108, 3) := by decide +kernel
theorem dX6_victim_14 : decode cX6_victim 14 = .ok (.goto 5, 3) := by decide +kernel
theorem dX6_victim_17 : decode cX6_victim 17 = .ok (.bipush (-101), 2) := by decide +kernel
theorem dX6_victim_19 : decode cX6_victim 19 = .ok (.ireturn, 1) := by decide +kernel
theorem dX6_convict_0 : decode cX6_convict 0 = .ok (.iload_n 1, 1) := by decide +kernel
theorem dX6_convict_1 : decode cX6_convict 1 = .ok (.i2l, 1) := by decide +kernel
theorem dX6_convict_2 : decode cX6_convict 2 = .ok (.lconst 0, 1) := by decide +kernel
theorem dX6_convict_3 : decode cX6_convict 3 = .ok (.ldc2_w 112, 3) := by decide +kernel
theorem dX6_convict_6 : decode cX6_convict 6 = .ok (.invokestatic 55, 3) := by decide +kernel
theorem dX6_convict_9 : decode cX6_convict 9 = .ok (.ifCond .eq 28, 3) := by decide +kernel
theorem dX6_convict_12 : decode cX6_convict 12 = .ok (.iload_n 3, 1) := by decide +kernel
theorem dX6_convict_13 : decode cX6_convict 13 = .ok (.i2l, 1) := by decide +kernel
theorem dX6_convict_14 : decode cX6_convict 14 = .ok (.lconst 1, 1) := by decide +kernel
theorem dX6_convict_15 : decode cX6_convict 15 = .ok (.ldc2_w 62, 3) := by decide +kernel
theorem dX6_convict_18 : decode cX6_convict 18 = .ok (.invokestatic 55, 3) := by decide +kernel
theorem dX6_convict_21 : decode cX6_convict 21 = .ok (.ifCond .eq 16, 3) := by decide +kernel
theorem dX6_convict_24 : decode cX6_convict 24 = .ok (.iload 4, 2) := by decide +kernel
theorem dX6_convict_26 : decode cX6_convict 26 = .ok (.i2l, 1) := by decide +kernel
theorem dX6_convict_27 : decode cX6_convict 27 = .ok (.lconst 0, 1) := by decide +kernel
theorem dX6_convict_28 : decode cX6_convict 28 = .ok (.ldc2_w 114, 3) := by decide +kernel
theorem dX6_convict_31 : decode cX6_convict 31 = .ok (.invokestatic 55, 3) := by decide +kernel
theorem dX6_convict_34 : decode cX6_convict 34 = .ok (.ifCond .ne 6, 3) := by decide +kernel
theorem dX6_convict_37 : decode cX6_convict 37 = .ok (.bipush (-102), 2) := by decide +kernel
theorem dX6_convict_39 : decode cX6_convict 39 = .ok (.ireturn, 1) := by decide +kernel
theorem dX6_convict_40 : decode cX6_convict 40 = .ok (.aload_n 0, 1) := by decide +kernel
theorem dX6_convict_41 : decode cX6_convict 41 = .ok (.iload_n 2, 1) := by decide +kernel
theorem dX6_convict_42 : decode cX6_convict 42 = .ok (.invokevirtual 104, 3) := by decide +kernel
theorem dX6_convict_45 : decode cX6_convict 45 = .ok (.ifCond .ne 6, 3) := by decide +kernel
theorem dX6_convict_48 : decode cX6_convict 48 = .ok (.bipush (-101), 2) := by decide +kernel
theorem dX6_convict_50 : decode cX6_convict 50 = .ok (.ireturn, 1) := by decide +kernel
theorem dX6_convict_51 : decode cX6_convict 51 = .ok (.aload_n 0, 1) := by decide +kernel
theorem dX6_convict_52 : decode cX6_convict 52 = .ok (.getfield 88, 3) := by decide +kernel
theorem dX6_convict_55 : decode cX6_convict 55 = .ok (.iconst 4, 1) := by decide +kernel
theorem dX6_convict_56 : decode cX6_convict 56 = .ok (.if_icmp .ne 6, 3) := by decide +kernel
theorem dX6_convict_59 : decode cX6_convict 59 = .ok (.bipush (-104), 2) := by decide +kernel
theorem dX6_convict_61 : decode cX6_convict 61 = .ok (.ireturn, 1) := by decide +kernel
theorem dX6_convict_62 : decode cX6_convict 62 = .ok (.aload_n 0, 1) := by decide +kernel
theorem dX6_convict_63 : decode cX6_convict 63 = .ok (.getfield 19, 3) := by decide +kernel
theorem dX6_convict_66 : decode cX6_convict 66 = .ok (.bipush 6, 2) := by decide +kernel
theorem dX6_convict_68 : decode cX6_convict 68 = .ok (.aload_n 0, 1) := by decide +kernel
theorem dX6_convict_69 : decode cX6_convict 69 = .ok (.getfield 88, 3) := by decide +kernel
theorem dX6_convict_72 : decode cX6_convict 72 = .ok (.imul, 1) := by decide +kernel
theorem dX6_convict_73 : decode cX6_convict 73 = .ok (.iload_n 1, 1) := by decide +kernel
theorem dX6_convict_74 : decode cX6_convict 74 = .ok (.iastore, 1) := by decide +kernel
theorem dX6_convict_75 : decode cX6_convict 75 = .ok (.aload_n 0, 1) := by decide +kernel
theorem dX6_convict_76 : decode cX6_convict 76 = .ok (.getfield 19, 3) := by decide +kernel
theorem dX6_convict_79 : decode cX6_convict 79 = .ok (.bipush 6, 2) := by decide +kernel
theorem dX6_convict_81 : decode cX6_convict 81 = .ok (.aload_n 0, 1) := by decide +kernel
theorem dX6_convict_82 : decode cX6_convict 82 = .ok (.getfield 88, 3) := by decide +kernel
theorem dX6_convict_85 : decode cX6_convict 85 = .ok (.imul, 1) := by decide +kernel
theorem dX6_convict_86 : decode cX6_convict 86 = .ok (.iconst 1, 1) := by decide +kernel
theorem dX6_convict_87 : decode cX6_convict 87 = .ok (.iadd, 1) := by decide +kernel
theorem dX6_convict_88 : decode cX6_convict 88 = .ok (.iload_n 2, 1) := by decide +kernel
theorem dX6_convict_89 : decode cX6_convict 89 = .ok (.iastore, 1) := by decide +kernel
theorem dX6_convict_90 : decode cX6_convict 90 = .ok (.aload_n 0, 1) := by decide +kernel
theorem dX6_convict_91 : decode cX6_convict 91 = .ok (.getfield 19, 3) := by decide +kernel
theorem dX6_convict_94 : decode cX6_convict 94 = .ok (.bipush 6, 2) := by decide +kernel
theorem dX6_convict_96 : decode cX6_convict 96 = .ok (.aload_n 0, 1) := by decide +kernel
theorem dX6_convict_97 : decode cX6_convict 97 = .ok (.getfield 88, 3) := by decide +kernel
theorem dX6_convict_100 : decode cX6_convict 100 = .ok (.imul, 1) := by decide +kernel
theorem dX6_convict_101 : decode cX6_convict 101 = .ok (.iconst 2, 1) := by decide +kernel
theorem dX6_convict_102 : decode cX6_convict 102 = .ok (.iadd, 1) := by decide +kernel
theorem dX6_convict_103 : decode cX6_convict 103 = .ok (.iload_n 3, 1) := by decide +kernel
theorem dX6_convict_104 : decode cX6_convict 104 = .ok (.iastore, 1) := by decide +kernel
theorem dX6_convict_105 : decode cX6_convict 105 = .ok (.aload_n 0, 1) := by decide +kernel
theorem dX6_convict_106 : decode cX6_convict 106 = .ok (.getfield 19, 3) := by decide +kernel
theorem dX6_convict_109 : decode cX6_convict 109 = .ok (.bipush 6, 2) := by decide +kernel
theorem dX6_convict_111 : decode cX6_convict 111 = .ok (.aload_n 0, 1) := by decide +kernel
theorem dX6_convict_112 : decode cX6_convict 112 = .ok (.getfield 88, 3) := by decide +kernel
theorem dX6_convict_115 : decode cX6_convict 115 = .ok (.imul, 1) := by decide +kernel
theorem dX6_convict_116 : decode cX6_convict 116 = .ok (.iconst 3, 1) := by decide +kernel
theorem dX6_convict_117 : decode cX6_convict 117 = .ok (.iadd, 1) := by decide +kernel
theorem dX6_convict_118 : decode cX6_convict 118 = .ok (.iload 4, 2) := by decide +kernel
theorem dX6_convict_120 : decode cX6_convict 120 = .ok (.iastore, 1) := by decide +kernel
theorem dX6_convict_121 : decode cX6_convict 121 = .ok (.aload_n 0, 1) := by decide +kernel
theorem dX6_convict_122 : decode cX6_convict 122 = .ok (.getfield 19, 3) := by decide +kernel
theorem dX6_convict_125 : decode cX6_convict 125 = .ok (.bipush 6, 2) := by decide +kernel
theorem dX6_convict_127 : decode cX6_convict 127 = .ok (.aload_n 0, 1) := by decide +kernel
