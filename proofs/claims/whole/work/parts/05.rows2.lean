theorem dX6_convict_128 : decode cX6_convict 128 = .ok (.getfield 88, 3) := by decide +kernel
theorem dX6_convict_131 : decode cX6_convict 131 = .ok (.imul, 1) := by decide +kernel
theorem dX6_convict_132 : decode cX6_convict 132 = .ok (.iconst 4, 1) := by decide +kernel
theorem dX6_convict_133 : decode cX6_convict 133 = .ok (.iadd, 1) := by decide +kernel
theorem dX6_convict_134 : decode cX6_convict 134 = .ok (.iload_n 1, 1) := by decide +kernel
theorem dX6_convict_135 : decode cX6_convict 135 = .ok (.invokestatic 116, 3) := by decide +kernel
theorem dX6_convict_138 : decode cX6_convict 138 = .ok (.iastore, 1) := by decide +kernel
theorem dX6_convict_139 : decode cX6_convict 139 = .ok (.aload_n 0, 1) := by decide +kernel
theorem dX6_convict_140 : decode cX6_convict 140 = .ok (.getfield 19, 3) := by decide +kernel
theorem dX6_convict_143 : decode cX6_convict 143 = .ok (.bipush 6, 2) := by decide +kernel
theorem dX6_convict_145 : decode cX6_convict 145 = .ok (.aload_n 0, 1) := by decide +kernel
theorem dX6_convict_146 : decode cX6_convict 146 = .ok (.getfield 88, 3) := by decide +kernel
theorem dX6_convict_149 : decode cX6_convict 149 = .ok (.imul, 1) := by decide +kernel
theorem dX6_convict_150 : decode cX6_convict 150 = .ok (.iconst 5, 1) := by decide +kernel
theorem dX6_convict_151 : decode cX6_convict 151 = .ok (.iadd, 1) := by decide +kernel
theorem dX6_convict_152 : decode cX6_convict 152 = .ok (.iconst 0, 1) := by decide +kernel
theorem dX6_convict_153 : decode cX6_convict 153 = .ok (.iastore, 1) := by decide +kernel
theorem dX6_convict_154 : decode cX6_convict 154 = .ok (.aload_n 0, 1) := by decide +kernel
theorem dX6_convict_155 : decode cX6_convict 155 = .ok (.dup, 1) := by decide +kernel
theorem dX6_convict_156 : decode cX6_convict 156 = .ok (.getfield 88, 3) := by decide +kernel
theorem dX6_convict_159 : decode cX6_convict 159 = .ok (.iconst 1, 1) := by decide +kernel
theorem dX6_convict_160 : decode cX6_convict 160 = .ok (.iadd, 1) := by decide +kernel
theorem dX6_convict_161 : decode cX6_convict 161 = .ok (.putfield 88, 3) := by decide +kernel
theorem dX6_convict_164 : decode cX6_convict 164 = .ok (.aload_n 0, 1) := by decide +kernel
theorem dX6_convict_165 : decode cX6_convict 165 = .ok (.getfield 88, 3) := by decide +kernel
theorem dX6_convict_168 : decode cX6_convict 168 = .ok (.iconst 1, 1) := by decide +kernel
theorem dX6_convict_169 : decode cX6_convict 169 = .ok (.isub, 1) := by decide +kernel
theorem dX6_convict_170 : decode cX6_convict 170 = .ok (.ireturn, 1) := by decide +kernel
theorem dX6_leftOf_0 : decode cX6_leftOf 0 = .ok (.aload_n 0, 1) := by decide +kernel
theorem dX6_leftOf_1 : decode cX6_leftOf 1 = .ok (.getfield 19, 3) := by decide +kernel
theorem dX6_leftOf_4 : decode cX6_leftOf 4 = .ok (.bipush 6, 2) := by decide +kernel
theorem dX6_leftOf_6 : decode cX6_leftOf 6 = .ok (.iload_n 1, 1) := by decide +kernel
theorem dX6_leftOf_7 : decode cX6_leftOf 7 = .ok (.imul, 1) := by decide +kernel
theorem dX6_leftOf_8 : decode cX6_leftOf 8 = .ok (.iconst 1, 1) := by decide +kernel
theorem dX6_leftOf_9 : decode cX6_leftOf 9 = .ok (.iadd, 1) := by decide +kernel
theorem dX6_leftOf_10 : decode cX6_leftOf 10 = .ok (.iaload, 1) := by decide +kernel
theorem dX6_leftOf_11 : decode cX6_leftOf 11 = .ok (.istore_n 2, 1) := by decide +kernel
theorem dX6_leftOf_12 : decode cX6_leftOf 12 = .ok (.aload_n 0, 1) := by decide +kernel
theorem dX6_leftOf_13 : decode cX6_leftOf 13 = .ok (.getfield 19, 3) := by decide +kernel
theorem dX6_leftOf_16 : decode cX6_leftOf 16 = .ok (.bipush 6, 2) := by decide +kernel
theorem dX6_leftOf_18 : decode cX6_leftOf 18 = .ok (.iload_n 1, 1) := by decide +kernel
theorem dX6_leftOf_19 : decode cX6_leftOf 19 = .ok (.imul, 1) := by decide +kernel
theorem dX6_leftOf_20 : decode cX6_leftOf 20 = .ok (.iconst 3, 1) := by decide +kernel
theorem dX6_leftOf_21 : decode cX6_leftOf 21 = .ok (.iadd, 1) := by decide +kernel
theorem dX6_leftOf_22 : decode cX6_leftOf 22 = .ok (.iaload, 1) := by decide +kernel
theorem dX6_leftOf_23 : decode cX6_leftOf 23 = .ok (.aload_n 0, 1) := by decide +kernel
theorem dX6_leftOf_24 : decode cX6_leftOf 24 = .ok (.getfield 13, 3) := by decide +kernel
theorem dX6_leftOf_27 : decode cX6_leftOf 27 = .ok (.iload_n 2, 1) := by decide +kernel
theorem dX6_leftOf_28 : decode cX6_leftOf 28 = .ok (.iaload, 1) := by decide +kernel
theorem dX6_leftOf_29 : decode cX6_leftOf 29 = .ok (.iand, 1) := by decide +kernel
theorem dX6_leftOf_30 : decode cX6_leftOf 30 = .ok (.aload_n 0, 1) := by decide +kernel
theorem dX6_leftOf_31 : decode cX6_leftOf 31 = .ok (.getfield 16, 3) := by decide +kernel
theorem dX6_leftOf_34 : decode cX6_leftOf 34 = .ok (.iload_n 2, 1) := by decide +kernel
theorem dX6_leftOf_35 : decode cX6_leftOf 35 = .ok (.iaload, 1) := by decide +kernel
theorem dX6_leftOf_36 : decode cX6_leftOf 36 = .ok (.iconst (-1), 1) := by decide +kernel
theorem dX6_leftOf_37 : decode cX6_leftOf 37 = .ok (.ixor, 1) := by decide +kernel
theorem dX6_leftOf_38 : decode cX6_leftOf 38 = .ok (.iand, 1) := by decide +kernel
theorem dX6_leftOf_39 : decode cX6_leftOf 39 = .ok (.ireturn, 1) := by decide +kernel
theorem dX6_needsOf_0 : decode cX6_needsOf 0 = .ok (.aload_n 0, 1) := by decide +kernel
theorem dX6_needsOf_1 : decode cX6_needsOf 1 = .ok (.getfield 19, 3) := by decide +kernel
theorem dX6_needsOf_4 : decode cX6_needsOf 4 = .ok (.bipush 6, 2) := by decide +kernel
theorem dX6_needsOf_6 : decode cX6_needsOf 6 = .ok (.iload_n 1, 1) := by decide +kernel
theorem dX6_needsOf_7 : decode cX6_needsOf 7 = .ok (.imul, 1) := by decide +kernel
theorem dX6_needsOf_8 : decode cX6_needsOf 8 = .ok (.iconst 2, 1) := by decide +kernel
theorem dX6_needsOf_9 : decode cX6_needsOf 9 = .ok (.iadd, 1) := by decide +kernel
theorem dX6_needsOf_10 : decode cX6_needsOf 10 = .ok (.iaload, 1) := by decide +kernel
theorem dX6_needsOf_11 : decode cX6_needsOf 11 = .ok (.istore_n 2, 1) := by decide +kernel
theorem dX6_needsOf_12 : decode cX6_needsOf 12 = .ok (.aload_n 0, 1) := by decide +kernel
theorem dX6_needsOf_13 : decode cX6_needsOf 13 = .ok (.getfield 19, 3) := by decide +kernel
theorem dX6_needsOf_16 : decode cX6_needsOf 16 = .ok (.bipush 6, 2) := by decide +kernel
theorem dX6_needsOf_18 : decode cX6_needsOf 18 = .ok (.iload_n 1, 1) := by decide +kernel
theorem dX6_needsOf_19 : decode cX6_needsOf 19 = .ok (.imul, 1) := by decide +kernel
theorem dX6_needsOf_20 : decode cX6_needsOf 20 = .ok (.iaload, 1) := by decide +kernel
theorem dX6_needsOf_21 : decode cX6_needsOf 21 = .ok (.iconst 3, 1) := by decide +kernel
theorem dX6_needsOf_22 : decode cX6_needsOf 22 = .ok (.if_icmp .ne 27, 3) := by decide +kernel
theorem dX6_needsOf_25 : decode cX6_needsOf 25 = .ok (.iload_n 2, 1) := by decide +kernel
theorem dX6_needsOf_26 : decode cX6_needsOf 26 = .ok (.ifCond .le 23, 3) := by decide +kernel
theorem dX6_needsOf_29 : decode cX6_needsOf 29 = .ok (.iconst 2, 1) := by decide +kernel
theorem dX6_needsOf_30 : decode cX6_needsOf 30 = .ok (.iload_n 2, 1) := by decide +kernel
theorem dX6_needsOf_31 : decode cX6_needsOf 31 = .ok (.imul, 1) := by decide +kernel
theorem dX6_needsOf_32 : decode cX6_needsOf 32 = .ok (.aload_n 0, 1) := by decide +kernel
theorem dX6_needsOf_33 : decode cX6_needsOf 33 = .ok (.getfield 19, 3) := by decide +kernel
theorem dX6_needsOf_36 : decode cX6_needsOf 36 = .ok (.bipush 6, 2) := by decide +kernel
theorem dX6_needsOf_38 : decode cX6_needsOf 38 = .ok (.iload_n 1, 1) := by decide +kernel
theorem dX6_needsOf_39 : decode cX6_needsOf 39 = .ok (.imul, 1) := by decide +kernel
theorem dX6_needsOf_40 : decode cX6_needsOf 40 = .ok (.iconst 5, 1) := by decide +kernel
theorem dX6_needsOf_41 : decode cX6_needsOf 41 = .ok (.iadd, 1) := by decide +kernel
theorem dX6_needsOf_42 : decode cX6_needsOf 42 = .ok (.iaload, 1) := by decide +kernel
theorem dX6_needsOf_43 : decode cX6_needsOf 43 = .ok (.iconst 2, 1) := by decide +kernel
theorem dX6_needsOf_44 : decode cX6_needsOf 44 = .ok (.irem, 1) := by decide +kernel
theorem dX6_needsOf_45 : decode cX6_needsOf 45 = .ok (.isub, 1) := by decide +kernel
theorem dX6_needsOf_46 : decode cX6_needsOf 46 = .ok (.goto 4, 3) := by decide +kernel
theorem dX6_needsOf_49 : decode cX6_needsOf 49 = .ok (.iload_n 2, 1) := by decide +kernel
theorem dX6_needsOf_50 : decode cX6_needsOf 50 = .ok (.ireturn, 1) := by decide +kernel
theorem dX6_daysOf_0 : decode cX6_daysOf 0 = .ok (.aload_n 0, 1) := by decide +kernel
theorem dX6_daysOf_1 : decode cX6_daysOf 1 = .ok (.iload_n 1, 1) := by decide +kernel
theorem dX6_daysOf_2 : decode cX6_daysOf 2 = .ok (.invokevirtual 119, 3) := by decide +kernel
theorem dX6_daysOf_5 : decode cX6_daysOf 5 = .ok (.istore_n 2, 1) := by decide +kernel
theorem dX6_daysOf_6 : decode cX6_daysOf 6 = .ok (.iload_n 2, 1) := by decide +kernel
theorem dX6_daysOf_7 : decode cX6_daysOf 7 = .ok (.ifCond .eq 15, 3) := by decide +kernel
theorem dX6_daysOf_10 : decode cX6_daysOf 10 = .ok (.aload_n 0, 1) := by decide +kernel
theorem dX6_daysOf_11 : decode cX6_daysOf 11 = .ok (.iload_n 1, 1) := by decide +kernel
theorem dX6_daysOf_12 : decode cX6_daysOf 12 = .ok (.invokevirtual 122, 3) := by decide +kernel
theorem dX6_daysOf_15 : decode cX6_daysOf 15 = .ok (.invokestatic 74, 3) := by decide +kernel
theorem dX6_daysOf_18 : decode cX6_daysOf 18 = .ok (.iload_n 2, 1) := by decide +kernel
theorem dX6_daysOf_19 : decode cX6_daysOf 19 = .ok (.if_icmp .ge 13, 3) := by decide +kernel
theorem dX6_daysOf_22 : decode cX6_daysOf 22 = .ok (.iload_n 2, 1) := by decide +kernel
theorem dX6_daysOf_23 : decode cX6_daysOf 23 = .ok (.ifCond .ne 7, 3) := by decide +kernel
theorem dX6_daysOf_26 : decode cX6_daysOf 26 = .ok (.iconst 0, 1) := by decide +kernel
theorem dX6_daysOf_27 : decode cX6_daysOf 27 = .ok (.goto 4, 3) := by decide +kernel
theorem dX6_daysOf_30 : decode cX6_daysOf 30 = .ok (.iconst (-1), 1) := by decide +kernel
theorem dX6_daysOf_31 : decode cX6_daysOf 31 = .ok (.ireturn, 1) := by decide +kernel
theorem dX6_daysOf_32 : decode cX6_daysOf 32 = .ok (.iconst 1, 1) := by decide +kernel
theorem dX6_daysOf_33 : decode cX6_daysOf 33 = .ok (.istore_n 3, 1) := by decide +kernel
theorem dX6_daysOf_34 : decode cX6_daysOf 34 = .ok (.aload_n 0, 1) := by decide +kernel
theorem dX6_daysOf_35 : decode cX6_daysOf 35 = .ok (.getfield 19, 3) := by decide +kernel
theorem dX6_daysOf_38 : decode cX6_daysOf 38 = .ok (.bipush 6, 2) := by decide +kernel
theorem dX6_daysOf_40 : decode cX6_daysOf 40 = .ok (.iload_n 1, 1) := by decide +kernel
theorem dX6_daysOf_41 : decode cX6_daysOf 41 = .ok (.imul, 1) := by decide +kernel
theorem dX6_daysOf_42 : decode cX6_daysOf 42 = .ok (.iconst 4, 1) := by decide +kernel
theorem dX6_daysOf_43 : decode cX6_daysOf 43 = .ok (.iadd, 1) := by decide +kernel
theorem dX6_daysOf_44 : decode cX6_daysOf 44 = .ok (.iaload, 1) := by decide +kernel
theorem dX6_daysOf_45 : decode cX6_daysOf 45 = .ok (.istore 4, 2) := by decide +kernel
theorem dX6_daysOf_47 : decode cX6_daysOf 47 = .ok (.iload 4, 2) := by decide +kernel
theorem dX6_daysOf_49 : decode cX6_daysOf 49 = .ok (.iload_n 2, 1) := by decide +kernel
theorem dX6_daysOf_50 : decode cX6_daysOf 50 = .ok (.if_icmp .ge 26, 3) := by decide +kernel
theorem dX6_daysOf_53 : decode cX6_daysOf 53 = .ok (.iload 4, 2) := by decide +kernel
theorem dX6_daysOf_55 : decode cX6_daysOf 55 = .ok (.aload_n 0, 1) := by decide +kernel
theorem dX6_daysOf_56 : decode cX6_daysOf 56 = .ok (.getfield 19, 3) := by decide +kernel
theorem dX6_daysOf_59 : decode cX6_daysOf 59 = .ok (.bipush 6, 2) := by decide +kernel
theorem dX6_daysOf_61 : decode cX6_daysOf 61 = .ok (.iload_n 1, 1) := by decide +kernel
theorem dX6_daysOf_62 : decode cX6_daysOf 62 = .ok (.imul, 1) := by decide +kernel
theorem dX6_daysOf_63 : decode cX6_daysOf 63 = .ok (.iaload, 1) := by decide +kernel
theorem dX6_daysOf_64 : decode cX6_daysOf 64 = .ok (.invokestatic 116, 3) := by decide +kernel
theorem dX6_daysOf_67 : decode cX6_daysOf 67 = .ok (.iadd, 1) := by decide +kernel
theorem dX6_daysOf_68 : decode cX6_daysOf 68 = .ok (.istore 4, 2) := by decide +kernel
theorem dX6_daysOf_70 : decode cX6_daysOf 70 = .ok (.iinc 3 1, 3) := by decide +kernel
theorem dX6_daysOf_73 : decode cX6_daysOf 73 = .ok (.goto (-26), 3) := by decide +kernel
theorem dX6_daysOf_76 : decode cX6_daysOf 76 = .ok (.iload_n 3, 1) := by decide +kernel
theorem dX6_daysOf_77 : decode cX6_daysOf 77 = .ok (.ireturn, 1) := by decide +kernel
theorem dX6_findOf_0 : decode cX6_findOf 0 = .ok (.aload_n 0, 1) := by decide +kernel
theorem dX6_findOf_1 : decode cX6_findOf 1 = .ok (.getfield 19, 3) := by decide +kernel
theorem dX6_findOf_4 : decode cX6_findOf 4 = .ok (.bipush 6, 2) := by decide +kernel
theorem dX6_findOf_6 : decode cX6_findOf 6 = .ok (.iload_n 1, 1) := by decide +kernel
theorem dX6_findOf_7 : decode cX6_findOf 7 = .ok (.imul, 1) := by decide +kernel
theorem dX6_findOf_8 : decode cX6_findOf 8 = .ok (.iconst 1, 1) := by decide +kernel
theorem dX6_findOf_9 : decode cX6_findOf 9 = .ok (.iadd, 1) := by decide +kernel
theorem dX6_findOf_10 : decode cX6_findOf 10 = .ok (.iaload, 1) := by decide +kernel
theorem dX6_findOf_11 : decode cX6_findOf 11 = .ok (.istore_n 2, 1) := by decide +kernel
theorem dX6_findOf_12 : decode cX6_findOf 12 = .ok (.aload_n 0, 1) := by decide +kernel
theorem dX6_findOf_13 : decode cX6_findOf 13 = .ok (.iload_n 1, 1) := by decide +kernel
theorem dX6_findOf_14 : decode cX6_findOf 14 = .ok (.invokevirtual 119, 3) := by decide +kernel
theorem dX6_findOf_17 : decode cX6_findOf 17 = .ok (.aload_n 0, 1) := by decide +kernel
theorem dX6_findOf_18 : decode cX6_findOf 18 = .ok (.iload_n 1, 1) := by decide +kernel
theorem dX6_findOf_19 : decode cX6_findOf 19 = .ok (.invokevirtual 122, 3) := by decide +kernel
theorem dX6_findOf_22 : decode cX6_findOf 22 = .ok (.invokestatic 74, 3) := by decide +kernel
theorem dX6_findOf_25 : decode cX6_findOf 25 = .ok (.isub, 1) := by decide +kernel
theorem dX6_findOf_26 : decode cX6_findOf 26 = .ok (.istore_n 3, 1) := by decide +kernel
theorem dX6_findOf_27 : decode cX6_findOf 27 = .ok (.aload_n 0, 1) := by decide +kernel
theorem dX6_findOf_28 : decode cX6_findOf 28 = .ok (.getfield 13, 3) := by decide +kernel
theorem dX6_findOf_31 : decode cX6_findOf 31 = .ok (.iload_n 2, 1) := by decide +kernel
theorem dX6_findOf_32 : decode cX6_findOf 32 = .ok (.iaload, 1) := by decide +kernel
theorem dX6_findOf_33 : decode cX6_findOf 33 = .ok (.aload_n 0, 1) := by decide +kernel
theorem dX6_findOf_34 : decode cX6_findOf 34 = .ok (.getfield 16, 3) := by decide +kernel
theorem dX6_findOf_37 : decode cX6_findOf 37 = .ok (.iload_n 2, 1) := by decide +kernel
theorem dX6_findOf_38 : decode cX6_findOf 38 = .ok (.iaload, 1) := by decide +kernel
theorem dX6_findOf_39 : decode cX6_findOf 39 = .ok (.iconst (-1), 1) := by decide +kernel
theorem dX6_findOf_40 : decode cX6_findOf 40 = .ok (.ixor, 1) := by decide +kernel
theorem dX6_findOf_41 : decode cX6_findOf 41 = .ok (.iand, 1) := by decide +kernel
theorem dX6_findOf_42 : decode cX6_findOf 42 = .ok (.aload_n 0, 1) := by decide +kernel
theorem dX6_findOf_43 : decode cX6_findOf 43 = .ok (.getfield 19, 3) := by decide +kernel
theorem dX6_findOf_46 : decode cX6_findOf 46 = .ok (.bipush 6, 2) := by decide +kernel
theorem dX6_findOf_48 : decode cX6_findOf 48 = .ok (.iload_n 1, 1) := by decide +kernel
theorem dX6_findOf_49 : decode cX6_findOf 49 = .ok (.imul, 1) := by decide +kernel
theorem dX6_findOf_50 : decode cX6_findOf 50 = .ok (.iconst 3, 1) := by decide +kernel
theorem dX6_findOf_51 : decode cX6_findOf 51 = .ok (.iadd, 1) := by decide +kernel
theorem dX6_findOf_52 : decode cX6_findOf 52 = .ok (.iaload, 1) := by decide +kernel
theorem dX6_findOf_53 : decode cX6_findOf 53 = .ok (.iconst (-1), 1) := by decide +kernel
theorem dX6_findOf_54 : decode cX6_findOf 54 = .ok (.ixor, 1) := by decide +kernel
theorem dX6_findOf_55 : decode cX6_findOf 55 = .ok (.iand, 1) := by decide +kernel
theorem dX6_findOf_56 : decode cX6_findOf 56 = .ok (.invokestatic 74, 3) := by decide +kernel
theorem dX6_findOf_59 : decode cX6_findOf 59 = .ok (.istore 4, 2) := by decide +kernel
theorem dX6_findOf_61 : decode cX6_findOf 61 = .ok (.iload_n 3, 1) := by decide +kernel
theorem dX6_findOf_62 : decode cX6_findOf 62 = .ok (.ifCond .gt 7, 3) := by decide +kernel
theorem dX6_findOf_65 : decode cX6_findOf 65 = .ok (.iconst 0, 1) := by decide +kernel
theorem dX6_findOf_66 : decode cX6_findOf 66 = .ok (.goto 14, 3) := by decide +kernel
theorem dX6_findOf_69 : decode cX6_findOf 69 = .ok (.iload_n 3, 1) := by decide +kernel
theorem dX6_findOf_70 : decode cX6_findOf 70 = .ok (.iload 4, 2) := by decide +kernel
theorem dX6_findOf_72 : decode cX6_findOf 72 = .ok (.if_icmp .le 7, 3) := by decide +kernel
theorem dX6_findOf_75 : decode cX6_findOf 75 = .ok (.iconst (-1), 1) := by decide +kernel
theorem dX6_findOf_76 : decode cX6_findOf 76 = .ok (.goto 4, 3) := by decide +kernel
theorem dX6_findOf_79 : decode cX6_findOf 79 = .ok (.iload_n 3, 1) := by decide +kernel
theorem dX6_findOf_80 : decode cX6_findOf 80 = .ok (.ireturn, 1) := by decide +kernel
theorem dX6_tell_0 : decode cX6_tell 0 = .ok (.iload_n 2, 1) := by decide +kernel
theorem dX6_tell_1 : decode cX6_tell 1 = .ok (.tableswitch 95 0 8 #[51, 51, 51, 51, 63, 69, 69, 83, 89], 51) := by decide +kernel
theorem dX6_tell_52 : decode cX6_tell 52 = .ok (.aload_n 0, 1) := by decide +kernel
theorem dX6_tell_53 : decode cX6_tell 53 = .ok (.getfield 19, 3) := by decide +kernel
theorem dX6_tell_56 : decode cX6_tell 56 = .ok (.bipush 6, 2) := by decide +kernel
theorem dX6_tell_58 : decode cX6_tell 58 = .ok (.iload_n 1, 1) := by decide +kernel
theorem dX6_tell_59 : decode cX6_tell 59 = .ok (.imul, 1) := by decide +kernel
theorem dX6_tell_60 : decode cX6_tell 60 = .ok (.iload_n 2, 1) := by decide +kernel
theorem dX6_tell_61 : decode cX6_tell 61 = .ok (.iadd, 1) := by decide +kernel
theorem dX6_tell_62 : decode cX6_tell 62 = .ok (.iaload, 1) := by decide +kernel
theorem dX6_tell_63 : decode cX6_tell 63 = .ok (.ireturn, 1) := by decide +kernel
theorem dX6_tell_64 : decode cX6_tell 64 = .ok (.aload_n 0, 1) := by decide +kernel
theorem dX6_tell_65 : decode cX6_tell 65 = .ok (.iload_n 1, 1) := by decide +kernel
theorem dX6_tell_66 : decode cX6_tell 66 = .ok (.invokevirtual 122, 3) := by decide +kernel
theorem dX6_tell_69 : decode cX6_tell 69 = .ok (.ireturn, 1) := by decide +kernel
theorem dX6_tell_70 : decode cX6_tell 70 = .ok (.aload_n 0, 1) := by decide +kernel
theorem dX6_tell_71 : decode cX6_tell 71 = .ok (.getfield 19, 3) := by decide +kernel
theorem dX6_tell_74 : decode cX6_tell 74 = .ok (.bipush 6, 2) := by decide +kernel
theorem dX6_tell_76 : decode cX6_tell 76 = .ok (.iload_n 1, 1) := by decide +kernel
theorem dX6_tell_77 : decode cX6_tell 77 = .ok (.imul, 1) := by decide +kernel
theorem dX6_tell_78 : decode cX6_tell 78 = .ok (.iload_n 2, 1) := by decide +kernel
theorem dX6_tell_79 : decode cX6_tell 79 = .ok (.iadd, 1) := by decide +kernel
theorem dX6_tell_80 : decode cX6_tell 80 = .ok (.iconst 1, 1) := by decide +kernel
theorem dX6_tell_81 : decode cX6_tell 81 = .ok (.isub, 1) := by decide +kernel
theorem dX6_tell_82 : decode cX6_tell 82 = .ok (.iaload, 1) := by decide +kernel
theorem dX6_tell_83 : decode cX6_tell 83 = .ok (.ireturn, 1) := by decide +kernel
theorem dX6_tell_84 : decode cX6_tell 84 = .ok (.aload_n 0, 1) := by decide +kernel
theorem dX6_tell_85 : decode cX6_tell 85 = .ok (.iload_n 1, 1) := by decide +kernel
theorem dX6_tell_86 : decode cX6_tell 86 = .ok (.invokevirtual 125, 3) := by decide +kernel
theorem dX6_tell_89 : decode cX6_tell 89 = .ok (.ireturn, 1) := by decide +kernel
theorem dX6_tell_90 : decode cX6_tell 90 = .ok (.aload_n 0, 1) := by decide +kernel
theorem dX6_tell_91 : decode cX6_tell 91 = .ok (.iload_n 1, 1) := by decide +kernel
theorem dX6_tell_92 : decode cX6_tell 92 = .ok (.invokevirtual 128, 3) := by decide +kernel
theorem dX6_tell_95 : decode cX6_tell 95 = .ok (.ireturn, 1) := by decide +kernel
theorem dX6_tell_96 : decode cX6_tell 96 = .ok (.bipush (-102), 2) := by decide +kernel
theorem dX6_tell_98 : decode cX6_tell 98 = .ok (.ireturn, 1) := by decide +kernel
theorem dX6_about_0 : decode cX6_about 0 = .ok (.aload_n 0, 1) := by decide +kernel
theorem dX6_about_1 : decode cX6_about 1 = .ok (.iload_n 1, 1) := by decide +kernel
theorem dX6_about_2 : decode cX6_about 2 = .ok (.invokevirtual 131, 3) := by decide +kernel
theorem dX6_about_5 : decode cX6_about 5 = .ok (.ifCond .eq 12, 3) := by decide +kernel
theorem dX6_about_8 : decode cX6_about 8 = .ok (.aload_n 0, 1) := by decide +kernel
theorem dX6_about_9 : decode cX6_about 9 = .ok (.iload_n 1, 1) := by decide +kernel
theorem dX6_about_10 : decode cX6_about 10 = .ok (.iload_n 2, 1) := by decide +kernel
theorem dX6_about_11 : decode cX6_about 11 = .ok (.invokevirtual 134, 3) := by decide +kernel
theorem dX6_about_14 : decode cX6_about 14 = .ok (.goto 5, 3) := by decide +kernel
theorem dX6_about_17 : decode cX6_about 17 = .ok (.bipush (-101), 2) := by decide +kernel
theorem dX6_about_19 : decode cX6_about 19 = .ok (.ireturn, 1) := by decide +kernel
theorem dX6_as_0 : decode cX6_as 0 = .ok (.aload_n 0, 1) := by decide +kernel
theorem dX6_as_1 : decode cX6_as 1 = .ok (.iload_n 1, 1) := by decide +kernel
theorem dX6_as_2 : decode cX6_as 2 = .ok (.invokevirtual 131, 3) := by decide +kernel
theorem dX6_as_5 : decode cX6_as 5 = .ok (.ifCond .ne 6, 3) := by decide +kernel
theorem dX6_as_8 : decode cX6_as 8 = .ok (.bipush (-101), 2) := by decide +kernel
theorem dX6_as_10 : decode cX6_as 10 = .ok (.ireturn, 1) := by decide +kernel
theorem dX6_as_11 : decode cX6_as 11 = .ok (.iload_n 2, 1) := by decide +kernel
theorem dX6_as_12 : decode cX6_as 12 = .ok (.i2l, 1) := by decide +kernel
theorem dX6_as_13 : decode cX6_as 13 = .ok (.lconst 0, 1) := by decide +kernel
theorem dX6_as_14 : decode cX6_as 14 = .ok (.ldc2_w 112, 3) := by decide +kernel
theorem dX6_as_17 : decode cX6_as 17 = .ok (.invokestatic 55, 3) := by decide +kernel
theorem dX6_as_20 : decode cX6_as 20 = .ok (.ifCond .ne 6, 3) := by decide +kernel
theorem dX6_as_23 : decode cX6_as 23 = .ok (.bipush (-102), 2) := by decide +kernel
theorem dX6_as_25 : decode cX6_as 25 = .ok (.ireturn, 1) := by decide +kernel
theorem dX6_as_26 : decode cX6_as 26 = .ok (.aload_n 0, 1) := by decide +kernel
theorem dX6_as_27 : decode cX6_as 27 = .ok (.getfield 19, 3) := by decide +kernel
theorem dX6_as_30 : decode cX6_as 30 = .ok (.bipush 6, 2) := by decide +kernel
theorem dX6_as_32 : decode cX6_as 32 = .ok (.iload_n 1, 1) := by decide +kernel
theorem dX6_as_33 : decode cX6_as 33 = .ok (.imul, 1) := by decide +kernel
theorem dX6_as_34 : decode cX6_as 34 = .ok (.iaload, 1) := by decide +kernel
theorem dX6_as_35 : decode cX6_as 35 = .ok (.istore_n 3, 1) := by decide +kernel
theorem dX6_as_36 : decode cX6_as 36 = .ok (.iload_n 2, 1) := by decide +kernel
theorem dX6_as_37 : decode cX6_as 37 = .ok (.ifCond .eq 18, 3) := by decide +kernel
theorem dX6_as_40 : decode cX6_as 40 = .ok (.iload_n 2, 1) := by decide +kernel
theorem dX6_as_41 : decode cX6_as 41 = .ok (.iload_n 3, 1) := by decide +kernel
theorem dX6_as_42 : decode cX6_as 42 = .ok (.if_icmp .eq 13, 3) := by decide +kernel
theorem dX6_as_45 : decode cX6_as 45 = .ok (.iload_n 2, 1) := by decide +kernel
theorem dX6_as_46 : decode cX6_as 46 = .ok (.iconst 1, 1) := by decide +kernel
theorem dX6_as_47 : decode cX6_as 47 = .ok (.if_icmp .ne 12, 3) := by decide +kernel
theorem dX6_as_50 : decode cX6_as 50 = .ok (.iload_n 3, 1) := by decide +kernel
theorem dX6_as_51 : decode cX6_as 51 = .ok (.iconst 4, 1) := by decide +kernel
theorem dX6_as_52 : decode cX6_as 52 = .ok (.if_icmp .ne 7, 3) := by decide +kernel
theorem dX6_as_55 : decode cX6_as 55 = .ok (.iconst 1, 1) := by decide +kernel
theorem dX6_as_56 : decode cX6_as 56 = .ok (.goto 4, 3) := by decide +kernel
theorem dX6_as_59 : decode cX6_as 59 = .ok (.iconst 0, 1) := by decide +kernel
theorem dX6_as_60 : decode cX6_as 60 = .ok (.istore 4, 2) := by decide +kernel
theorem dX6_as_62 : decode cX6_as 62 = .ok (.iload 4, 2) := by decide +kernel
theorem dX6_as_64 : decode cX6_as 64 = .ok (.ifCond .eq 7, 3) := by decide +kernel
theorem dX6_as_67 : decode cX6_as 67 = .ok (.iload_n 1, 1) := by decide +kernel
theorem dX6_as_68 : decode cX6_as 68 = .ok (.goto 4, 3) := by decide +kernel
theorem dX6_as_71 : decode cX6_as 71 = .ok (.iconst (-1), 1) := by decide +kernel
theorem dX6_as_72 : decode cX6_as 72 = .ok (.ireturn, 1) := by decide +kernel
theorem dX6_knows_0 : decode cX6_knows 0 = .ok (.aload_n 0, 1) := by decide +kernel
theorem dX6_knows_1 : decode cX6_knows 1 = .ok (.getfield 19, 3) := by decide +kernel
theorem dX6_knows_4 : decode cX6_knows 4 = .ok (.bipush 6, 2) := by decide +kernel
theorem dX6_knows_6 : decode cX6_knows 6 = .ok (.iload_n 1, 1) := by decide +kernel
theorem dX6_knows_7 : decode cX6_knows 7 = .ok (.imul, 1) := by decide +kernel
theorem dX6_knows_8 : decode cX6_knows 8 = .ok (.iconst 3, 1) := by decide +kernel
theorem dX6_knows_9 : decode cX6_knows 9 = .ok (.iadd, 1) := by decide +kernel
theorem dX6_knows_10 : decode cX6_knows 10 = .ok (.iaload, 1) := by decide +kernel
theorem dX6_knows_11 : decode cX6_knows 11 = .ok (.iload_n 2, 1) := by decide +kernel
theorem dX6_knows_12 : decode cX6_knows 12 = .ok (.ishr, 1) := by decide +kernel
theorem dX6_knows_13 : decode cX6_knows 13 = .ok (.iconst 1, 1) := by decide +kernel
theorem dX6_knows_14 : decode cX6_knows 14 = .ok (.iand, 1) := by decide +kernel
theorem dX6_knows_15 : decode cX6_knows 15 = .ok (.iconst 1, 1) := by decide +kernel
theorem dX6_knows_16 : decode cX6_knows 16 = .ok (.if_icmp .ne 7, 3) := by decide +kernel
theorem dX6_knows_19 : decode cX6_knows 19 = .ok (.iconst 1, 1) := by decide +kernel
theorem dX6_knows_20 : decode cX6_knows 20 = .ok (.goto 4, 3) := by decide +kernel
theorem dX6_knows_23 : decode cX6_knows 23 = .ok (.iconst 0, 1) := by decide +kernel
theorem dX6_knows_24 : decode cX6_knows 24 = .ok (.ireturn, 1) := by decide +kernel
theorem dX6_says_0 : decode cX6_says 0 = .ok (.aload_n 0, 1) := by decide +kernel
theorem dX6_says_1 : decode cX6_says 1 = .ok (.getfield 19, 3) := by decide +kernel
theorem dX6_says_4 : decode cX6_says 4 = .ok (.bipush 6, 2) := by decide +kernel
theorem dX6_says_6 : decode cX6_says 6 = .ok (.iload_n 1, 1) := by decide +kernel
theorem dX6_says_7 : decode cX6_says 7 = .ok (.imul, 1) := by decide +kernel
theorem dX6_says_8 : decode cX6_says 8 = .ok (.iconst 1, 1) := by decide +kernel
theorem dX6_says_9 : decode cX6_says 9 = .ok (.iadd, 1) := by decide +kernel
theorem dX6_says_10 : decode cX6_says 10 = .ok (.iaload, 1) := by decide +kernel
theorem dX6_says_11 : decode cX6_says 11 = .ok (.istore_n 3, 1) := by decide +kernel
theorem dX6_says_12 : decode cX6_says 12 = .ok (.aload_n 0, 1) := by decide +kernel
theorem dX6_says_13 : decode cX6_says 13 = .ok (.getfield 16, 3) := by decide +kernel
theorem dX6_says_16 : decode cX6_says 16 = .ok (.iload_n 3, 1) := by decide +kernel
theorem dX6_says_17 : decode cX6_says 17 = .ok (.iaload, 1) := by decide +kernel
theorem dX6_says_18 : decode cX6_says 18 = .ok (.iload_n 2, 1) := by decide +kernel
theorem dX6_says_19 : decode cX6_says 19 = .ok (.ishr, 1) := by decide +kernel
theorem dX6_says_20 : decode cX6_says 20 = .ok (.iconst 1, 1) := by decide +kernel
theorem dX6_says_21 : decode cX6_says 21 = .ok (.iand, 1) := by decide +kernel
theorem dX6_says_22 : decode cX6_says 22 = .ok (.ifCond .ne 7, 3) := by decide +kernel
theorem dX6_says_25 : decode cX6_says 25 = .ok (.iconst 1, 1) := by decide +kernel
theorem dX6_says_26 : decode cX6_says 26 = .ok (.goto 4, 3) := by decide +kernel
theorem dX6_says_29 : decode cX6_says 29 = .ok (.iconst 0, 1) := by decide +kernel
theorem dX6_says_30 : decode cX6_says 30 = .ok (.istore 4, 2) := by decide +kernel
theorem dX6_says_32 : decode cX6_says 32 = .ok (.aload_n 0, 1) := by decide +kernel
theorem dX6_says_33 : decode cX6_says 33 = .ok (.getfield 13, 3) := by decide +kernel
theorem dX6_says_36 : decode cX6_says 36 = .ok (.iload_n 3, 1) := by decide +kernel
theorem dX6_says_37 : decode cX6_says 37 = .ok (.iaload, 1) := by decide +kernel
theorem dX6_says_38 : decode cX6_says 38 = .ok (.iload_n 2, 1) := by decide +kernel
theorem dX6_says_39 : decode cX6_says 39 = .ok (.ishr, 1) := by decide +kernel
theorem dX6_says_40 : decode cX6_says 40 = .ok (.iconst 1, 1) := by decide +kernel
theorem dX6_says_41 : decode cX6_says 41 = .ok (.iand, 1) := by decide +kernel
theorem dX6_says_42 : decode cX6_says 42 = .ok (.iconst 1, 1) := by decide +kernel
theorem dX6_says_43 : decode cX6_says 43 = .ok (.if_icmp .ne 7, 3) := by decide +kernel
theorem dX6_says_46 : decode cX6_says 46 = .ok (.iconst 1, 1) := by decide +kernel
theorem dX6_says_47 : decode cX6_says 47 = .ok (.goto 4, 3) := by decide +kernel
theorem dX6_says_50 : decode cX6_says 50 = .ok (.iconst 0, 1) := by decide +kernel
theorem dX6_says_51 : decode cX6_says 51 = .ok (.istore 5, 2) := by decide +kernel
theorem dX6_says_53 : decode cX6_says 53 = .ok (.iload 5, 2) := by decide +kernel
theorem dX6_says_55 : decode cX6_says 55 = .ok (.ifCond .ne 27, 3) := by decide +kernel
theorem dX6_says_58 : decode cX6_says 58 = .ok (.aload_n 0, 1) := by decide +kernel
theorem dX6_says_59 : decode cX6_says 59 = .ok (.getfield 19, 3) := by decide +kernel
theorem dX6_says_62 : decode cX6_says 62 = .ok (.bipush 6, 2) := by decide +kernel
theorem dX6_says_64 : decode cX6_says 64 = .ok (.iload_n 1, 1) := by decide +kernel
theorem dX6_says_65 : decode cX6_says 65 = .ok (.imul, 1) := by decide +kernel
theorem dX6_says_66 : decode cX6_says 66 = .ok (.iaload, 1) := by decide +kernel
theorem dX6_says_67 : decode cX6_says 67 = .ok (.iconst 2, 1) := by decide +kernel
theorem dX6_says_68 : decode cX6_says 68 = .ok (.if_icmp .ne 14, 3) := by decide +kernel
theorem dX6_says_71 : decode cX6_says 71 = .ok (.aload_n 0, 1) := by decide +kernel
theorem dX6_says_72 : decode cX6_says 72 = .ok (.getfield 78, 3) := by decide +kernel
theorem dX6_says_75 : decode cX6_says 75 = .ok (.ifCond .le 7, 3) := by decide +kernel
theorem dX6_says_78 : decode cX6_says 78 = .ok (.iconst 1, 1) := by decide +kernel
theorem dX6_says_79 : decode cX6_says 79 = .ok (.goto 4, 3) := by decide +kernel
theorem dX6_says_82 : decode cX6_says 82 = .ok (.iconst 0, 1) := by decide +kernel
theorem dX6_says_83 : decode cX6_says 83 = .ok (.istore 6, 2) := by decide +kernel
theorem dX6_says_85 : decode cX6_says 85 = .ok (.iload 4, 2) := by decide +kernel
theorem dX6_says_87 : decode cX6_says 87 = .ok (.ifCond .eq 13, 3) := by decide +kernel
theorem dX6_says_90 : decode cX6_says 90 = .ok (.iload 5, 2) := by decide +kernel
theorem dX6_says_92 : decode cX6_says 92 = .ok (.ifCond .ne 10, 3) := by decide +kernel
theorem dX6_says_95 : decode cX6_says 95 = .ok (.iload 6, 2) := by decide +kernel
theorem dX6_says_97 : decode cX6_says 97 = .ok (.ifCond .ne 5, 3) := by decide +kernel
theorem dX6_says_100 : decode cX6_says 100 = .ok (.iconst 0, 1) := by decide +kernel
theorem dX6_says_101 : decode cX6_says 101 = .ok (.ireturn, 1) := by decide +kernel
theorem dX6_says_102 : decode cX6_says 102 = .ok (.aload_n 0, 1) := by decide +kernel
theorem dX6_says_103 : decode cX6_says 103 = .ok (.dup, 1) := by decide +kernel
theorem dX6_says_104 : decode cX6_says 104 = .ok (.getfield 78, 3) := by decide +kernel
theorem dX6_says_107 : decode cX6_says 107 = .ok (.iload 6, 2) := by decide +kernel
theorem dX6_says_109 : decode cX6_says 109 = .ok (.ifCond .eq 7, 3) := by decide +kernel
theorem dX6_says_112 : decode cX6_says 112 = .ok (.iconst 1, 1) := by decide +kernel
theorem dX6_says_113 : decode cX6_says 113 = .ok (.goto 4, 3) := by decide +kernel
theorem dX6_says_116 : decode cX6_says 116 = .ok (.iconst 0, 1) := by decide +kernel
theorem dX6_says_117 : decode cX6_says 117 = .ok (.isub, 1) := by decide +kernel
theorem dX6_says_118 : decode cX6_says 118 = .ok (.putfield 78, 3) := by decide +kernel
theorem dX6_says_121 : decode cX6_says 121 = .ok (.aload_n 0, 1) := by decide +kernel
theorem dX6_says_122 : decode cX6_says 122 = .ok (.getfield 16, 3) := by decide +kernel
theorem dX6_says_125 : decode cX6_says 125 = .ok (.iload_n 3, 1) := by decide +kernel
theorem dX6_says_126 : decode cX6_says 126 = .ok (.dup2, 1) := by decide +kernel
theorem dX6_says_127 : decode cX6_says 127 = .ok (.iaload, 1) := by decide +kernel
theorem dX6_says_128 : decode cX6_says 128 = .ok (.iconst 1, 1) := by decide +kernel
theorem dX6_says_129 : decode cX6_says 129 = .ok (.iload_n 2, 1) := by decide +kernel
theorem dX6_says_130 : decode cX6_says 130 = .ok (.ishl, 1) := by decide +kernel
theorem dX6_says_131 : decode cX6_says 131 = .ok (.ior, 1) := by decide +kernel
theorem dX6_says_132 : decode cX6_says 132 = .ok (.iastore, 1) := by decide +kernel
theorem dX6_says_133 : decode cX6_says 133 = .ok (.aload_n 0, 1) := by decide +kernel
theorem dX6_says_134 : decode cX6_says 134 = .ok (.getfield 19, 3) := by decide +kernel
theorem dX6_says_137 : decode cX6_says 137 = .ok (.bipush 6, 2) := by decide +kernel
theorem dX6_says_139 : decode cX6_says 139 = .ok (.iload_n 1, 1) := by decide +kernel
theorem dX6_says_140 : decode cX6_says 140 = .ok (.imul, 1) := by decide +kernel
theorem dX6_says_141 : decode cX6_says 141 = .ok (.iconst 5, 1) := by decide +kernel
theorem dX6_says_142 : decode cX6_says 142 = .ok (.iadd, 1) := by decide +kernel
theorem dX6_says_143 : decode cX6_says 143 = .ok (.dup2, 1) := by decide +kernel
theorem dX6_says_144 : decode cX6_says 144 = .ok (.iaload, 1) := by decide +kernel
theorem dX6_says_145 : decode cX6_says 145 = .ok (.iconst 1, 1) := by decide +kernel
theorem dX6_says_146 : decode cX6_says 146 = .ok (.iadd, 1) := by decide +kernel
theorem dX6_says_147 : decode cX6_says 147 = .ok (.iastore, 1) := by decide +kernel
theorem dX6_says_148 : decode cX6_says 148 = .ok (.aload_n 0, 1) := by decide +kernel
theorem dX6_says_149 : decode cX6_says 149 = .ok (.getfield 19, 3) := by decide +kernel
theorem dX6_says_152 : decode cX6_says 152 = .ok (.bipush 6, 2) := by decide +kernel
theorem dX6_says_154 : decode cX6_says 154 = .ok (.iload_n 1, 1) := by decide +kernel
theorem dX6_says_155 : decode cX6_says 155 = .ok (.imul, 1) := by decide +kernel
theorem dX6_says_156 : decode cX6_says 156 = .ok (.iconst 2, 1) := by decide +kernel
theorem dX6_says_157 : decode cX6_says 157 = .ok (.iadd, 1) := by decide +kernel
theorem dX6_says_158 : decode cX6_says 158 = .ok (.dup2, 1) := by decide +kernel
theorem dX6_says_159 : decode cX6_says 159 = .ok (.iaload, 1) := by decide +kernel
theorem dX6_says_160 : decode cX6_says 160 = .ok (.aload_n 0, 1) := by decide +kernel
theorem dX6_says_161 : decode cX6_says 161 = .ok (.getfield 19, 3) := by decide +kernel
theorem dX6_says_164 : decode cX6_says 164 = .ok (.bipush 6, 2) := by decide +kernel
theorem dX6_says_166 : decode cX6_says 166 = .ok (.iload_n 1, 1) := by decide +kernel
theorem dX6_says_167 : decode cX6_says 167 = .ok (.imul, 1) := by decide +kernel
theorem dX6_says_168 : decode cX6_says 168 = .ok (.iaload, 1) := by decide +kernel
theorem dX6_says_169 : decode cX6_says 169 = .ok (.iconst 3, 1) := by decide +kernel
theorem dX6_says_170 : decode cX6_says 170 = .ok (.if_icmp .ne 24, 3) := by decide +kernel
theorem dX6_says_173 : decode cX6_says 173 = .ok (.aload_n 0, 1) := by decide +kernel
theorem dX6_says_174 : decode cX6_says 174 = .ok (.getfield 19, 3) := by decide +kernel
theorem dX6_says_177 : decode cX6_says 177 = .ok (.bipush 6, 2) := by decide +kernel
theorem dX6_says_179 : decode cX6_says 179 = .ok (.iload_n 1, 1) := by decide +kernel
theorem dX6_says_180 : decode cX6_says 180 = .ok (.imul, 1) := by decide +kernel
theorem dX6_says_181 : decode cX6_says 181 = .ok (.iconst 5, 1) := by decide +kernel
theorem dX6_says_182 : decode cX6_says 182 = .ok (.iadd, 1) := by decide +kernel
theorem dX6_says_183 : decode cX6_says 183 = .ok (.iaload, 1) := by decide +kernel
theorem dX6_says_184 : decode cX6_says 184 = .ok (.iconst 2, 1) := by decide +kernel
theorem dX6_says_185 : decode cX6_says 185 = .ok (.irem, 1) := by decide +kernel
theorem dX6_says_186 : decode cX6_says 186 = .ok (.iconst 1, 1) := by decide +kernel
theorem dX6_says_187 : decode cX6_says 187 = .ok (.if_icmp .ne 7, 3) := by decide +kernel
theorem dX6_says_190 : decode cX6_says 190 = .ok (.iconst 0, 1) := by decide +kernel
theorem dX6_says_191 : decode cX6_says 191 = .ok (.goto 4, 3) := by decide +kernel
theorem dX6_says_194 : decode cX6_says 194 = .ok (.iconst 1, 1) := by decide +kernel
theorem dX6_says_195 : decode cX6_says 195 = .ok (.isub, 1) := by decide +kernel
theorem dX6_says_196 : decode cX6_says 196 = .ok (.iastore, 1) := by decide +kernel
theorem dX6_says_197 : decode cX6_says 197 = .ok (.iconst 1, 1) := by decide +kernel
theorem dX6_says_198 : decode cX6_says 198 = .ok (.ireturn, 1) := by decide +kernel
theorem dX6_say_0 : decode cX6_say 0 = .ok (.aload_n 0, 1) := by decide +kernel
theorem dX6_say_1 : decode cX6_say 1 = .ok (.iload_n 1, 1) := by decide +kernel
theorem dX6_say_2 : decode cX6_say 2 = .ok (.invokevirtual 131, 3) := by decide +kernel
theorem dX6_say_5 : decode cX6_say 5 = .ok (.ifCond .eq 10, 3) := by decide +kernel
theorem dX6_say_8 : decode cX6_say 8 = .ok (.iload_n 2, 1) := by decide +kernel
theorem dX6_say_9 : decode cX6_say 9 = .ok (.invokestatic 137, 3) := by decide +kernel
theorem dX6_say_12 : decode cX6_say 12 = .ok (.ifCond .ne 6, 3) := by decide +kernel
theorem dX6_say_15 : decode cX6_say 15 = .ok (.bipush (-101), 2) := by decide +kernel
theorem dX6_say_17 : decode cX6_say 17 = .ok (.ireturn, 1) := by decide +kernel
theorem dX6_say_18 : decode cX6_say 18 = .ok (.aload_n 0, 1) := by decide +kernel
theorem dX6_say_19 : decode cX6_say 19 = .ok (.getfield 19, 3) := by decide +kernel
theorem dX6_say_22 : decode cX6_say 22 = .ok (.bipush 6, 2) := by decide +kernel
theorem dX6_say_24 : decode cX6_say 24 = .ok (.iload_n 1, 1) := by decide +kernel
theorem dX6_say_25 : decode cX6_say 25 = .ok (.imul, 1) := by decide +kernel
theorem dX6_say_26 : decode cX6_say 26 = .ok (.iconst 2, 1) := by decide +kernel
theorem dX6_say_27 : decode cX6_say 27 = .ok (.iadd, 1) := by decide +kernel
theorem dX6_say_28 : decode cX6_say 28 = .ok (.iaload, 1) := by decide +kernel
theorem dX6_say_29 : decode cX6_say 29 = .ok (.ifCond .eq 26, 3) := by decide +kernel
theorem dX6_say_32 : decode cX6_say 32 = .ok (.aload_n 0, 1) := by decide +kernel
theorem dX6_say_33 : decode cX6_say 33 = .ok (.getfield 19, 3) := by decide +kernel
theorem dX6_say_36 : decode cX6_say 36 = .ok (.bipush 6, 2) := by decide +kernel
theorem dX6_say_38 : decode cX6_say 38 = .ok (.iload_n 1, 1) := by decide +kernel
theorem dX6_say_39 : decode cX6_say 39 = .ok (.imul, 1) := by decide +kernel
theorem dX6_say_40 : decode cX6_say 40 = .ok (.iconst 4, 1) := by decide +kernel
theorem dX6_say_41 : decode cX6_say 41 = .ok (.iadd, 1) := by decide +kernel
theorem dX6_say_42 : decode cX6_say 42 = .ok (.iaload, 1) := by decide +kernel
theorem dX6_say_43 : decode cX6_say 43 = .ok (.ifCond .eq 12, 3) := by decide +kernel
theorem dX6_say_46 : decode cX6_say 46 = .ok (.aload_n 0, 1) := by decide +kernel
theorem dX6_say_47 : decode cX6_say 47 = .ok (.iload_n 1, 1) := by decide +kernel
theorem dX6_say_48 : decode cX6_say 48 = .ok (.iload_n 2, 1) := by decide +kernel
theorem dX6_say_49 : decode cX6_say 49 = .ok (.invokevirtual 140, 3) := by decide +kernel
theorem dX6_say_52 : decode cX6_say 52 = .ok (.ifCond .ne 6, 3) := by decide +kernel
theorem dX6_say_55 : decode cX6_say 55 = .ok (.bipush (-103), 2) := by decide +kernel
theorem dX6_say_57 : decode cX6_say 57 = .ok (.ireturn, 1) := by decide +kernel
theorem dX6_say_58 : decode cX6_say 58 = .ok (.aload_n 0, 1) := by decide +kernel
theorem dX6_say_59 : decode cX6_say 59 = .ok (.getfield 19, 3) := by decide +kernel
theorem dX6_say_62 : decode cX6_say 62 = .ok (.bipush 6, 2) := by decide +kernel
theorem dX6_say_64 : decode cX6_say 64 = .ok (.iload_n 1, 1) := by decide +kernel
theorem dX6_say_65 : decode cX6_say 65 = .ok (.imul, 1) := by decide +kernel
theorem dX6_say_66 : decode cX6_say 66 = .ok (.iconst 4, 1) := by decide +kernel
theorem dX6_say_67 : decode cX6_say 67 = .ok (.iadd, 1) := by decide +kernel
theorem dX6_say_68 : decode cX6_say 68 = .ok (.dup2, 1) := by decide +kernel
theorem dX6_say_69 : decode cX6_say 69 = .ok (.iaload, 1) := by decide +kernel
theorem dX6_say_70 : decode cX6_say 70 = .ok (.iconst 1, 1) := by decide +kernel
theorem dX6_say_71 : decode cX6_say 71 = .ok (.isub, 1) := by decide +kernel
theorem dX6_say_72 : decode cX6_say 72 = .ok (.iastore, 1) := by decide +kernel
theorem dX6_say_73 : decode cX6_say 73 = .ok (.aload_n 0, 1) := by decide +kernel
theorem dX6_say_74 : decode cX6_say 74 = .ok (.iload_n 1, 1) := by decide +kernel
theorem dX6_say_75 : decode cX6_say 75 = .ok (.iload_n 2, 1) := by decide +kernel
theorem dX6_say_76 : decode cX6_say 76 = .ok (.invokevirtual 143, 3) := by decide +kernel
theorem dX6_say_79 : decode cX6_say 79 = .ok (.ireturn, 1) := by decide +kernel
theorem dX6_learn_0 : decode cX6_learn 0 = .ok (.aload_n 0, 1) := by decide +kernel
theorem dX6_learn_1 : decode cX6_learn 1 = .ok (.iload_n 1, 1) := by decide +kernel
theorem dX6_learn_2 : decode cX6_learn 2 = .ok (.invokevirtual 131, 3) := by decide +kernel
theorem dX6_learn_5 : decode cX6_learn 5 = .ok (.ifCond .eq 10, 3) := by decide +kernel
theorem dX6_learn_8 : decode cX6_learn 8 = .ok (.iload_n 2, 1) := by decide +kernel
theorem dX6_learn_9 : decode cX6_learn 9 = .ok (.invokestatic 137, 3) := by decide +kernel
theorem dX6_learn_12 : decode cX6_learn 12 = .ok (.ifCond .ne 6, 3) := by decide +kernel
theorem dX6_learn_15 : decode cX6_learn 15 = .ok (.bipush (-101), 2) := by decide +kernel
theorem dX6_learn_17 : decode cX6_learn 17 = .ok (.ireturn, 1) := by decide +kernel
theorem dX6_learn_18 : decode cX6_learn 18 = .ok (.aload_n 0, 1) := by decide +kernel
theorem dX6_learn_19 : decode cX6_learn 19 = .ok (.iload_n 1, 1) := by decide +kernel
theorem dX6_learn_20 : decode cX6_learn 20 = .ok (.iload_n 2, 1) := by decide +kernel
theorem dX6_learn_21 : decode cX6_learn 21 = .ok (.invokevirtual 140, 3) := by decide +kernel
theorem dX6_learn_24 : decode cX6_learn 24 = .ok (.ifCond .eq 7, 3) := by decide +kernel
theorem dX6_learn_27 : decode cX6_learn 27 = .ok (.iconst 0, 1) := by decide +kernel
theorem dX6_learn_28 : decode cX6_learn 28 = .ok (.goto 4, 3) := by decide +kernel
theorem dX6_learn_31 : decode cX6_learn 31 = .ok (.iconst 1, 1) := by decide +kernel
theorem dX6_learn_32 : decode cX6_learn 32 = .ok (.istore_n 3, 1) := by decide +kernel
theorem dX6_learn_33 : decode cX6_learn 33 = .ok (.aload_n 0, 1) := by decide +kernel
theorem dX6_learn_34 : decode cX6_learn 34 = .ok (.getfield 19, 3) := by decide +kernel
theorem dX6_learn_37 : decode cX6_learn 37 = .ok (.bipush 6, 2) := by decide +kernel
theorem dX6_learn_39 : decode cX6_learn 39 = .ok (.iload_n 1, 1) := by decide +kernel
theorem dX6_learn_40 : decode cX6_learn 40 = .ok (.imul, 1) := by decide +kernel
theorem dX6_learn_41 : decode cX6_learn 41 = .ok (.iconst 3, 1) := by decide +kernel
theorem dX6_learn_42 : decode cX6_learn 42 = .ok (.iadd, 1) := by decide +kernel
theorem dX6_learn_43 : decode cX6_learn 43 = .ok (.dup2, 1) := by decide +kernel
theorem dX6_learn_44 : decode cX6_learn 44 = .ok (.iaload, 1) := by decide +kernel
theorem dX6_learn_45 : decode cX6_learn 45 = .ok (.iconst 1, 1) := by decide +kernel
theorem dX6_learn_46 : decode cX6_learn 46 = .ok (.iload_n 2, 1) := by decide +kernel
theorem dX6_learn_47 : decode cX6_learn 47 = .ok (.ishl, 1) := by decide +kernel
theorem dX6_learn_48 : decode cX6_learn 48 = .ok (.ior, 1) := by decide +kernel
theorem dX6_learn_49 : decode cX6_learn 49 = .ok (.iastore, 1) := by decide +kernel
theorem dX6_learn_50 : decode cX6_learn 50 = .ok (.iload_n 3, 1) := by decide +kernel
theorem dX6_learn_51 : decode cX6_learn 51 = .ok (.ireturn, 1) := by decide +kernel
theorem dX6_sleep_0 : decode cX6_sleep 0 = .ok (.iconst 0, 1) := by decide +kernel
theorem dX6_sleep_1 : decode cX6_sleep 1 = .ok (.istore_n 1, 1) := by decide +kernel
theorem dX6_sleep_2 : decode cX6_sleep 2 = .ok (.iload_n 1, 1) := by decide +kernel
theorem dX6_sleep_3 : decode cX6_sleep 3 = .ok (.aload_n 0, 1) := by decide +kernel
theorem dX6_sleep_4 : decode cX6_sleep 4 = .ok (.getfield 88, 3) := by decide +kernel
theorem dX6_sleep_7 : decode cX6_sleep 7 = .ok (.if_icmp .ge 32, 3) := by decide +kernel
theorem dX6_sleep_10 : decode cX6_sleep 10 = .ok (.aload_n 0, 1) := by decide +kernel
theorem dX6_sleep_11 : decode cX6_sleep 11 = .ok (.getfield 19, 3) := by decide +kernel
theorem dX6_sleep_14 : decode cX6_sleep 14 = .ok (.bipush 6, 2) := by decide +kernel
theorem dX6_sleep_16 : decode cX6_sleep 16 = .ok (.iload_n 1, 1) := by decide +kernel
theorem dX6_sleep_17 : decode cX6_sleep 17 = .ok (.imul, 1) := by decide +kernel
theorem dX6_sleep_18 : decode cX6_sleep 18 = .ok (.iconst 4, 1) := by decide +kernel
theorem dX6_sleep_19 : decode cX6_sleep 19 = .ok (.iadd, 1) := by decide +kernel
theorem dX6_sleep_20 : decode cX6_sleep 20 = .ok (.aload_n 0, 1) := by decide +kernel
theorem dX6_sleep_21 : decode cX6_sleep 21 = .ok (.getfield 19, 3) := by decide +kernel
theorem dX6_sleep_24 : decode cX6_sleep 24 = .ok (.bipush 6, 2) := by decide +kernel
theorem dX6_sleep_26 : decode cX6_sleep 26 = .ok (.iload_n 1, 1) := by decide +kernel
theorem dX6_sleep_27 : decode cX6_sleep 27 = .ok (.imul, 1) := by decide +kernel
theorem dX6_sleep_28 : decode cX6_sleep 28 = .ok (.iaload, 1) := by decide +kernel
theorem dX6_sleep_29 : decode cX6_sleep 29 = .ok (.invokestatic 116, 3) := by decide +kernel
theorem dX6_sleep_32 : decode cX6_sleep 32 = .ok (.iastore, 1) := by decide +kernel
theorem dX6_sleep_33 : decode cX6_sleep 33 = .ok (.iinc 1 1, 3) := by decide +kernel
theorem dX6_sleep_36 : decode cX6_sleep 36 = .ok (.goto (-34), 3) := by decide +kernel
theorem dX6_sleep_39 : decode cX6_sleep 39 = .ok (.return_, 1) := by decide +kernel
theorem dX6_night_0 : decode cX6_night 0 = .ok (.aload_n 0, 1) := by decide +kernel
theorem dX6_night_1 : decode cX6_night 1 = .ok (.getfield 81, 3) := by decide +kernel
theorem dX6_night_4 : decode cX6_night 4 = .ok (.ifCond .ne 6, 3) := by decide +kernel
theorem dX6_night_7 : decode cX6_night 7 = .ok (.bipush (-103), 2) := by decide +kernel
theorem dX6_night_9 : decode cX6_night 9 = .ok (.ireturn, 1) := by decide +kernel
theorem dX6_night_10 : decode cX6_night 10 = .ok (.aload_n 0, 1) := by decide +kernel
theorem dX6_night_11 : decode cX6_night 11 = .ok (.invokevirtual 146, 3) := by decide +kernel
theorem dX6_night_14 : decode cX6_night 14 = .ok (.aload_n 0, 1) := by decide +kernel
theorem dX6_night_15 : decode cX6_night 15 = .ok (.dup, 1) := by decide +kernel
theorem dX6_night_16 : decode cX6_night 16 = .ok (.getfield 85, 3) := by decide +kernel
theorem dX6_night_19 : decode cX6_night 19 = .ok (.iconst 1, 1) := by decide +kernel
theorem dX6_night_20 : decode cX6_night 20 = .ok (.iadd, 1) := by decide +kernel
theorem dX6_night_21 : decode cX6_night 21 = .ok (.putfield 85, 3) := by decide +kernel
theorem dX6_night_24 : decode cX6_night 24 = .ok (.aload_n 0, 1) := by decide +kernel
theorem dX6_night_25 : decode cX6_night 25 = .ok (.getfield 85, 3) := by decide +kernel
theorem dX6_night_28 : decode cX6_night 28 = .ok (.ireturn, 1) := by decide +kernel
theorem dX6_saidBy_0 : decode cX6_saidBy 0 = .ok (.iload_n 2, 1) := by decide +kernel
theorem dX6_saidBy_1 : decode cX6_saidBy 1 = .ok (.istore_n 3, 1) := by decide +kernel
theorem dX6_saidBy_2 : decode cX6_saidBy 2 = .ok (.iconst 0, 1) := by decide +kernel
theorem dX6_saidBy_3 : decode cX6_saidBy 3 = .ok (.istore 4, 2) := by decide +kernel
theorem dX6_saidBy_5 : decode cX6_saidBy 5 = .ok (.iconst 1, 1) := by decide +kernel
theorem dX6_saidBy_6 : decode cX6_saidBy 6 = .ok (.istore 5, 2) := by decide +kernel
theorem dX6_saidBy_8 : decode cX6_saidBy 8 = .ok (.iconst 0, 1) := by decide +kernel
theorem dX6_saidBy_9 : decode cX6_saidBy 9 = .ok (.istore 6, 2) := by decide +kernel
theorem dX6_saidBy_11 : decode cX6_saidBy 11 = .ok (.iload 6, 2) := by decide +kernel
theorem dX6_saidBy_13 : decode cX6_saidBy 13 = .ok (.iconst 4, 1) := by decide +kernel
theorem dX6_saidBy_14 : decode cX6_saidBy 14 = .ok (.if_icmp .ge 17, 3) := by decide +kernel
theorem dX6_saidBy_17 : decode cX6_saidBy 17 = .ok (.aload_n 0, 1) := by decide +kernel
theorem dX6_saidBy_18 : decode cX6_saidBy 18 = .ok (.getfield 28, 3) := by decide +kernel
theorem dX6_saidBy_21 : decode cX6_saidBy 21 = .ok (.iload 6, 2) := by decide +kernel
theorem dX6_saidBy_23 : decode cX6_saidBy 23 = .ok (.iconst 0, 1) := by decide +kernel
theorem dX6_saidBy_24 : decode cX6_saidBy 24 = .ok (.iastore, 1) := by decide +kernel
theorem dX6_saidBy_25 : decode cX6_saidBy 25 = .ok (.iinc 6 1, 3) := by decide +kernel
theorem dX6_saidBy_28 : decode cX6_saidBy 28 = .ok (.goto (-17), 3) := by decide +kernel
theorem dX6_saidBy_31 : decode cX6_saidBy 31 = .ok (.iconst 5, 1) := by decide +kernel
theorem dX6_saidBy_32 : decode cX6_saidBy 32 = .ok (.istore 6, 2) := by decide +kernel
theorem dX6_saidBy_34 : decode cX6_saidBy 34 = .ok (.iload 6, 2) := by decide +kernel
theorem dX6_saidBy_36 : decode cX6_saidBy 36 = .ok (.ifCond .lt 105, 3) := by decide +kernel
theorem dX6_saidBy_39 : decode cX6_saidBy 39 = .ok (.aload_n 0, 1) := by decide +kernel
theorem dX6_saidBy_40 : decode cX6_saidBy 40 = .ok (.getfield 22, 3) := by decide +kernel
theorem dX6_saidBy_43 : decode cX6_saidBy 43 = .ok (.iload 6, 2) := by decide +kernel
theorem dX6_saidBy_45 : decode cX6_saidBy 45 = .ok (.iload_n 3, 1) := by decide +kernel
theorem dX6_saidBy_46 : decode cX6_saidBy 46 = .ok (.iconst 5, 1) := by decide +kernel
theorem dX6_saidBy_47 : decode cX6_saidBy 47 = .ok (.irem, 1) := by decide +kernel
theorem dX6_saidBy_48 : decode cX6_saidBy 48 = .ok (.iastore, 1) := by decide +kernel
theorem dX6_saidBy_49 : decode cX6_saidBy 49 = .ok (.iload_n 3, 1) := by decide +kernel
theorem dX6_saidBy_50 : decode cX6_saidBy 50 = .ok (.iconst 5, 1) := by decide +kernel
theorem dX6_saidBy_51 : decode cX6_saidBy 51 = .ok (.idiv, 1) := by decide +kernel
theorem dX6_saidBy_52 : decode cX6_saidBy 52 = .ok (.istore_n 3, 1) := by decide +kernel
theorem dX6_saidBy_53 : decode cX6_saidBy 53 = .ok (.aload_n 0, 1) := by decide +kernel
theorem dX6_saidBy_54 : decode cX6_saidBy 54 = .ok (.getfield 22, 3) := by decide +kernel
theorem dX6_saidBy_57 : decode cX6_saidBy 57 = .ok (.iload 6, 2) := by decide +kernel
theorem dX6_saidBy_59 : decode cX6_saidBy 59 = .ok (.iaload, 1) := by decide +kernel
theorem dX6_saidBy_60 : decode cX6_saidBy 60 = .ok (.iconst 1, 1) := by decide +kernel
theorem dX6_saidBy_61 : decode cX6_saidBy 61 = .ok (.isub, 1) := by decide +kernel
theorem dX6_saidBy_62 : decode cX6_saidBy 62 = .ok (.istore 7, 2) := by decide +kernel
theorem dX6_saidBy_64 : decode cX6_saidBy 64 = .ok (.iload 7, 2) := by decide +kernel
theorem dX6_saidBy_66 : decode cX6_saidBy 66 = .ok (.ifCond .lt 69, 3) := by decide +kernel
theorem dX6_saidBy_69 : decode cX6_saidBy 69 = .ok (.iload 5, 2) := by decide +kernel
theorem dX6_saidBy_71 : decode cX6_saidBy 71 = .ok (.ifCond .eq 47, 3) := by decide +kernel
theorem dX6_saidBy_74 : decode cX6_saidBy 74 = .ok (.iload 7, 2) := by decide +kernel
theorem dX6_saidBy_76 : decode cX6_saidBy 76 = .ok (.aload_n 0, 1) := by decide +kernel
theorem dX6_saidBy_77 : decode cX6_saidBy 77 = .ok (.getfield 88, 3) := by decide +kernel
theorem dX6_saidBy_80 : decode cX6_saidBy 80 = .ok (.if_icmp .ge 38, 3) := by decide +kernel
theorem dX6_saidBy_83 : decode cX6_saidBy 83 = .ok (.aload_n 0, 1) := by decide +kernel
theorem dX6_saidBy_84 : decode cX6_saidBy 84 = .ok (.getfield 19, 3) := by decide +kernel
theorem dX6_saidBy_87 : decode cX6_saidBy 87 = .ok (.bipush 6, 2) := by decide +kernel
theorem dX6_saidBy_89 : decode cX6_saidBy 89 = .ok (.iload 7, 2) := by decide +kernel
theorem dX6_saidBy_91 : decode cX6_saidBy 91 = .ok (.imul, 1) := by decide +kernel
theorem dX6_saidBy_92 : decode cX6_saidBy 92 = .ok (.iconst 1, 1) := by decide +kernel
theorem dX6_saidBy_93 : decode cX6_saidBy 93 = .ok (.iadd, 1) := by decide +kernel
theorem dX6_saidBy_94 : decode cX6_saidBy 94 = .ok (.iaload, 1) := by decide +kernel
theorem dX6_saidBy_95 : decode cX6_saidBy 95 = .ok (.iload_n 1, 1) := by decide +kernel
theorem dX6_saidBy_96 : decode cX6_saidBy 96 = .ok (.if_icmp .ne 22, 3) := by decide +kernel
theorem dX6_saidBy_99 : decode cX6_saidBy 99 = .ok (.aload_n 0, 1) := by decide +kernel
theorem dX6_saidBy_100 : decode cX6_saidBy 100 = .ok (.iload 7, 2) := by decide +kernel
theorem dX6_saidBy_102 : decode cX6_saidBy 102 = .ok (.invokevirtual 122, 3) := by decide +kernel
theorem dX6_saidBy_105 : decode cX6_saidBy 105 = .ok (.iload 6, 2) := by decide +kernel
theorem dX6_saidBy_107 : decode cX6_saidBy 107 = .ok (.ishr, 1) := by decide +kernel
theorem dX6_saidBy_108 : decode cX6_saidBy 108 = .ok (.iconst 1, 1) := by decide +kernel
theorem dX6_saidBy_109 : decode cX6_saidBy 109 = .ok (.iand, 1) := by decide +kernel
theorem dX6_saidBy_110 : decode cX6_saidBy 110 = .ok (.iconst 1, 1) := by decide +kernel
theorem dX6_saidBy_111 : decode cX6_saidBy 111 = .ok (.if_icmp .ne 7, 3) := by decide +kernel
theorem dX6_saidBy_114 : decode cX6_saidBy 114 = .ok (.iconst 1, 1) := by decide +kernel
theorem dX6_saidBy_115 : decode cX6_saidBy 115 = .ok (.goto 4, 3) := by decide +kernel
theorem dX6_saidBy_118 : decode cX6_saidBy 118 = .ok (.iconst 0, 1) := by decide +kernel
theorem dX6_saidBy_119 : decode cX6_saidBy 119 = .ok (.istore 5, 2) := by decide +kernel
theorem dX6_saidBy_121 : decode cX6_saidBy 121 = .ok (.aload_n 0, 1) := by decide +kernel
theorem dX6_saidBy_122 : decode cX6_saidBy 122 = .ok (.getfield 28, 3) := by decide +kernel
theorem dX6_saidBy_125 : decode cX6_saidBy 125 = .ok (.iload 7, 2) := by decide +kernel
theorem dX6_saidBy_127 : decode cX6_saidBy 127 = .ok (.dup2, 1) := by decide +kernel
theorem dX6_saidBy_128 : decode cX6_saidBy 128 = .ok (.iaload, 1) := by decide +kernel
theorem dX6_saidBy_129 : decode cX6_saidBy 129 = .ok (.iconst 1, 1) := by decide +kernel
theorem dX6_saidBy_130 : decode cX6_saidBy 130 = .ok (.iadd, 1) := by decide +kernel
theorem dX6_saidBy_131 : decode cX6_saidBy 131 = .ok (.iastore, 1) := by decide +kernel
theorem dX6_saidBy_132 : decode cX6_saidBy 132 = .ok (.iinc 4 1, 3) := by decide +kernel
theorem dX6_saidBy_135 : decode cX6_saidBy 135 = .ok (.iinc 6 (-1), 3) := by decide +kernel
theorem dX6_saidBy_138 : decode cX6_saidBy 138 = .ok (.goto (-104), 3) := by decide +kernel
theorem dX6_saidBy_141 : decode cX6_saidBy 141 = .ok (.iconst 0, 1) := by decide +kernel
theorem dX6_saidBy_142 : decode cX6_saidBy 142 = .ok (.istore 6, 2) := by decide +kernel
theorem dX6_saidBy_144 : decode cX6_saidBy 144 = .ok (.iload 6, 2) := by decide +kernel
theorem dX6_saidBy_146 : decode cX6_saidBy 146 = .ok (.aload_n 0, 1) := by decide +kernel
theorem dX6_saidBy_147 : decode cX6_saidBy 147 = .ok (.getfield 88, 3) := by decide +kernel
theorem dX6_saidBy_150 : decode cX6_saidBy 150 = .ok (.if_icmp .ge 47, 3) := by decide +kernel
theorem dX6_saidBy_153 : decode cX6_saidBy 153 = .ok (.iload 5, 2) := by decide +kernel
theorem dX6_saidBy_155 : decode cX6_saidBy 155 = .ok (.ifCond .eq 42, 3) := by decide +kernel
theorem dX6_saidBy_158 : decode cX6_saidBy 158 = .ok (.aload_n 0, 1) := by decide +kernel
theorem dX6_saidBy_159 : decode cX6_saidBy 159 = .ok (.getfield 28, 3) := by decide +kernel
theorem dX6_saidBy_162 : decode cX6_saidBy 162 = .ok (.iload 6, 2) := by decide +kernel
theorem dX6_saidBy_164 : decode cX6_saidBy 164 = .ok (.iaload, 1) := by decide +kernel
theorem dX6_saidBy_165 : decode cX6_saidBy 165 = .ok (.ifCond .eq 19, 3) := by decide +kernel
theorem dX6_saidBy_168 : decode cX6_saidBy 168 = .ok (.aload_n 0, 1) := by decide +kernel
theorem dX6_saidBy_169 : decode cX6_saidBy 169 = .ok (.getfield 28, 3) := by decide +kernel
theorem dX6_saidBy_172 : decode cX6_saidBy 172 = .ok (.iload 6, 2) := by decide +kernel
theorem dX6_saidBy_174 : decode cX6_saidBy 174 = .ok (.iaload, 1) := by decide +kernel
theorem dX6_saidBy_175 : decode cX6_saidBy 175 = .ok (.aload_n 0, 1) := by decide +kernel
theorem dX6_saidBy_176 : decode cX6_saidBy 176 = .ok (.iload 6, 2) := by decide +kernel
theorem dX6_saidBy_178 : decode cX6_saidBy 178 = .ok (.invokevirtual 119, 3) := by decide +kernel
theorem dX6_saidBy_181 : decode cX6_saidBy 181 = .ok (.if_icmp .gt 7, 3) := by decide +kernel
theorem dX6_saidBy_184 : decode cX6_saidBy 184 = .ok (.iconst 1, 1) := by decide +kernel
theorem dX6_saidBy_185 : decode cX6_saidBy 185 = .ok (.goto 4, 3) := by decide +kernel
theorem dX6_saidBy_188 : decode cX6_saidBy 188 = .ok (.iconst 0, 1) := by decide +kernel
theorem dX6_saidBy_189 : decode cX6_saidBy 189 = .ok (.istore 5, 2) := by decide +kernel
theorem dX6_saidBy_191 : decode cX6_saidBy 191 = .ok (.iinc 6 1, 3) := by decide +kernel
theorem dX6_saidBy_194 : decode cX6_saidBy 194 = .ok (.goto (-50), 3) := by decide +kernel
theorem dX6_saidBy_197 : decode cX6_saidBy 197 = .ok (.iload 5, 2) := by decide +kernel
theorem dX6_saidBy_199 : decode cX6_saidBy 199 = .ok (.ifCond .eq 8, 3) := by decide +kernel
theorem dX6_saidBy_202 : decode cX6_saidBy 202 = .ok (.iload 4, 2) := by decide +kernel
theorem dX6_saidBy_204 : decode cX6_saidBy 204 = .ok (.goto 4, 3) := by decide +kernel
theorem dX6_saidBy_207 : decode cX6_saidBy 207 = .ok (.iconst (-1), 1) := by decide +kernel
theorem dX6_saidBy_208 : decode cX6_saidBy 208 = .ok (.ireturn, 1) := by decide +kernel
theorem dX6_layMost_0 : decode cX6_layMost 0 = .ok (.iconst (-1), 1) := by decide +kernel
theorem dX6_layMost_1 : decode cX6_layMost 1 = .ok (.istore_n 2, 1) := by decide +kernel
theorem dX6_layMost_2 : decode cX6_layMost 2 = .ok (.iconst 0, 1) := by decide +kernel
theorem dX6_layMost_3 : decode cX6_layMost 3 = .ok (.istore_n 3, 1) := by decide +kernel
theorem dX6_layMost_4 : decode cX6_layMost 4 = .ok (.iload_n 3, 1) := by decide +kernel
theorem dX6_layMost_5 : decode cX6_layMost 5 = .ok (.sipush 15625, 3) := by decide +kernel
theorem dX6_layMost_8 : decode cX6_layMost 8 = .ok (.if_icmp .ge 37, 3) := by decide +kernel
theorem dX6_layMost_11 : decode cX6_layMost 11 = .ok (.aload_n 0, 1) := by decide +kernel
theorem dX6_layMost_12 : decode cX6_layMost 12 = .ok (.iload_n 1, 1) := by decide +kernel
theorem dX6_layMost_13 : decode cX6_layMost 13 = .ok (.iload_n 3, 1) := by decide +kernel
theorem dX6_layMost_14 : decode cX6_layMost 14 = .ok (.invokevirtual 149, 3) := by decide +kernel
theorem dX6_layMost_17 : decode cX6_layMost 17 = .ok (.istore 4, 2) := by decide +kernel
theorem dX6_layMost_19 : decode cX6_layMost 19 = .ok (.iload 4, 2) := by decide +kernel
theorem dX6_layMost_21 : decode cX6_layMost 21 = .ok (.iload_n 2, 1) := by decide +kernel
theorem dX6_layMost_22 : decode cX6_layMost 22 = .ok (.if_icmp .le 17, 3) := by decide +kernel
theorem dX6_layMost_25 : decode cX6_layMost 25 = .ok (.iload 4, 2) := by decide +kernel
theorem dX6_layMost_27 : decode cX6_layMost 27 = .ok (.istore_n 2, 1) := by decide +kernel
theorem dX6_layMost_28 : decode cX6_layMost 28 = .ok (.aload_n 0, 1) := by decide +kernel
theorem dX6_layMost_29 : decode cX6_layMost 29 = .ok (.getfield 22, 3) := by decide +kernel
theorem dX6_layMost_32 : decode cX6_layMost 32 = .ok (.aload_n 0, 1) := by decide +kernel
theorem dX6_layMost_33 : decode cX6_layMost 33 = .ok (.getfield 25, 3) := by decide +kernel
theorem dX6_layMost_36 : decode cX6_layMost 36 = .ok (.invokestatic 152, 3) := by decide +kernel
theorem dX6_layMost_39 : decode cX6_layMost 39 = .ok (.iinc 3 1, 3) := by decide +kernel
theorem dX6_layMost_42 : decode cX6_layMost 42 = .ok (.goto (-38), 3) := by decide +kernel
theorem dX6_layMost_45 : decode cX6_layMost 45 = .ok (.iload_n 2, 1) := by decide +kernel
theorem dX6_layMost_46 : decode cX6_layMost 46 = .ok (.ireturn, 1) := by decide +kernel
theorem dX6_mostOf_0 : decode cX6_mostOf 0 = .ok (.iconst 0, 1) := by decide +kernel
theorem dX6_mostOf_1 : decode cX6_mostOf 1 = .ok (.istore_n 1, 1) := by decide +kernel
theorem dX6_mostOf_2 : decode cX6_mostOf 2 = .ok (.iconst 0, 1) := by decide +kernel
theorem dX6_mostOf_3 : decode cX6_mostOf 3 = .ok (.istore_n 2, 1) := by decide +kernel
theorem dX6_mostOf_4 : decode cX6_mostOf 4 = .ok (.iload_n 2, 1) := by decide +kernel
theorem dX6_mostOf_5 : decode cX6_mostOf 5 = .ok (.iconst 3, 1) := by decide +kernel
theorem dX6_mostOf_6 : decode cX6_mostOf 6 = .ok (.if_icmp .ge 17, 3) := by decide +kernel
theorem dX6_mostOf_9 : decode cX6_mostOf 9 = .ok (.iload_n 1, 1) := by decide +kernel
theorem dX6_mostOf_10 : decode cX6_mostOf 10 = .ok (.aload_n 0, 1) := by decide +kernel
theorem dX6_mostOf_11 : decode cX6_mostOf 11 = .ok (.iload_n 2, 1) := by decide +kernel
theorem dX6_mostOf_12 : decode cX6_mostOf 12 = .ok (.invokevirtual 156, 3) := by decide +kernel
theorem dX6_mostOf_15 : decode cX6_mostOf 15 = .ok (.iadd, 1) := by decide +kernel
theorem dX6_mostOf_16 : decode cX6_mostOf 16 = .ok (.istore_n 1, 1) := by decide +kernel
theorem dX6_mostOf_17 : decode cX6_mostOf 17 = .ok (.iinc 2 1, 3) := by decide +kernel
theorem dX6_mostOf_20 : decode cX6_mostOf 20 = .ok (.goto (-16), 3) := by decide +kernel
theorem dX6_mostOf_23 : decode cX6_mostOf 23 = .ok (.iload_n 1, 1) := by decide +kernel
theorem dX6_mostOf_24 : decode cX6_mostOf 24 = .ok (.ireturn, 1) := by decide +kernel
theorem dX6_needsAll_0 : decode cX6_needsAll 0 = .ok (.iconst 0, 1) := by decide +kernel
theorem dX6_needsAll_1 : decode cX6_needsAll 1 = .ok (.istore_n 1, 1) := by decide +kernel
theorem dX6_needsAll_2 : decode cX6_needsAll 2 = .ok (.iconst 0, 1) := by decide +kernel
theorem dX6_needsAll_3 : decode cX6_needsAll 3 = .ok (.istore_n 2, 1) := by decide +kernel
theorem dX6_needsAll_4 : decode cX6_needsAll 4 = .ok (.iload_n 2, 1) := by decide +kernel
theorem dX6_needsAll_5 : decode cX6_needsAll 5 = .ok (.aload_n 0, 1) := by decide +kernel
theorem dX6_needsAll_6 : decode cX6_needsAll 6 = .ok (.getfield 88, 3) := by decide +kernel
theorem dX6_needsAll_9 : decode cX6_needsAll 9 = .ok (.if_icmp .ge 17, 3) := by decide +kernel
theorem dX6_needsAll_12 : decode cX6_needsAll 12 = .ok (.iload_n 1, 1) := by decide +kernel
theorem dX6_needsAll_13 : decode cX6_needsAll 13 = .ok (.aload_n 0, 1) := by decide +kernel
theorem dX6_needsAll_14 : decode cX6_needsAll 14 = .ok (.iload_n 2, 1) := by decide +kernel
theorem dX6_needsAll_15 : decode cX6_needsAll 15 = .ok (.invokevirtual 119, 3) := by decide +kernel
theorem dX6_needsAll_18 : decode cX6_needsAll 18 = .ok (.iadd, 1) := by decide +kernel
theorem dX6_needsAll_19 : decode cX6_needsAll 19 = .ok (.istore_n 1, 1) := by decide +kernel
theorem dX6_needsAll_20 : decode cX6_needsAll 20 = .ok (.iinc 2 1, 3) := by decide +kernel
theorem dX6_needsAll_23 : decode cX6_needsAll 23 = .ok (.goto (-19), 3) := by decide +kernel
theorem dX6_needsAll_26 : decode cX6_needsAll 26 = .ok (.iload_n 1, 1) := by decide +kernel
theorem dX6_needsAll_27 : decode cX6_needsAll 27 = .ok (.ireturn, 1) := by decide +kernel
theorem dX6_most_0 : decode cX6_most 0 = .ok (.iload_n 1, 1) := by decide +kernel
theorem dX6_most_1 : decode cX6_most 1 = .ok (.i2l, 1) := by decide +kernel
theorem dX6_most_2 : decode cX6_most 2 = .ok (.lconst 0, 1) := by decide +kernel
theorem dX6_most_3 : decode cX6_most 3 = .ok (.lconst 1, 1) := by decide +kernel
theorem dX6_most_4 : decode cX6_most 4 = .ok (.invokestatic 55, 3) := by decide +kernel
theorem dX6_most_7 : decode cX6_most 7 = .ok (.ifCond .ne 6, 3) := by decide +kernel
theorem dX6_most_10 : decode cX6_most 10 = .ok (.bipush (-102), 2) := by decide +kernel
theorem dX6_most_12 : decode cX6_most 12 = .ok (.ireturn, 1) := by decide +kernel
theorem dX6_most_13 : decode cX6_most 13 = .ok (.aload_n 0, 1) := by decide +kernel
theorem dX6_most_14 : decode cX6_most 14 = .ok (.getfield 81, 3) := by decide +kernel
theorem dX6_most_17 : decode cX6_most 17 = .ok (.ifCond .ne 6, 3) := by decide +kernel
theorem dX6_most_20 : decode cX6_most 20 = .ok (.bipush (-103), 2) := by decide +kernel
theorem dX6_most_22 : decode cX6_most 22 = .ok (.ireturn, 1) := by decide +kernel
theorem dX6_most_23 : decode cX6_most 23 = .ok (.aload_n 0, 1) := by decide +kernel
theorem dX6_most_24 : decode cX6_most 24 = .ok (.invokevirtual 159, 3) := by decide +kernel
theorem dX6_most_27 : decode cX6_most 27 = .ok (.istore_n 2, 1) := by decide +kernel
theorem dX6_most_28 : decode cX6_most 28 = .ok (.iload_n 1, 1) := by decide +kernel
theorem dX6_most_29 : decode cX6_most 29 = .ok (.ifCond .ne 7, 3) := by decide +kernel
theorem dX6_most_32 : decode cX6_most 32 = .ok (.iload_n 2, 1) := by decide +kernel
theorem dX6_most_33 : decode cX6_most 33 = .ok (.goto 16, 3) := by decide +kernel
theorem dX6_most_36 : decode cX6_most 36 = .ok (.iload_n 2, 1) := by decide +kernel
theorem dX6_most_37 : decode cX6_most 37 = .ok (.aload_n 0, 1) := by decide +kernel
theorem dX6_most_38 : decode cX6_most 38 = .ok (.invokevirtual 162, 3) := by decide +kernel
theorem dX6_most_41 : decode cX6_most 41 = .ok (.if_icmp .ne 7, 3) := by decide +kernel
theorem dX6_most_44 : decode cX6_most 44 = .ok (.iconst 1, 1) := by decide +kernel
theorem dX6_most_45 : decode cX6_most 45 = .ok (.goto 4, 3) := by decide +kernel
theorem dX6_most_48 : decode cX6_most 48 = .ok (.iconst 0, 1) := by decide +kernel
theorem dX6_most_49 : decode cX6_most 49 = .ok (.ireturn, 1) := by decide +kernel
theorem dX6_who_0 : decode cX6_who 0 = .ok (.aload_n 0, 1) := by decide +kernel
theorem dX6_who_1 : decode cX6_who 1 = .ok (.iload_n 1, 1) := by decide +kernel
theorem dX6_who_2 : decode cX6_who 2 = .ok (.invokevirtual 104, 3) := by decide +kernel
theorem dX6_who_5 : decode cX6_who 5 = .ok (.ifCond .eq 10, 3) := by decide +kernel
theorem dX6_who_8 : decode cX6_who 8 = .ok (.iload_n 2, 1) := by decide +kernel
theorem dX6_who_9 : decode cX6_who 9 = .ok (.invokestatic 137, 3) := by decide +kernel
theorem dX6_who_12 : decode cX6_who 12 = .ok (.ifCond .ne 6, 3) := by decide +kernel
theorem dX6_who_15 : decode cX6_who 15 = .ok (.bipush (-101), 2) := by decide +kernel
theorem dX6_who_17 : decode cX6_who 17 = .ok (.ireturn, 1) := by decide +kernel
theorem dX6_who_18 : decode cX6_who 18 = .ok (.aload_n 0, 1) := by decide +kernel
theorem dX6_who_19 : decode cX6_who 19 = .ok (.iload_n 1, 1) := by decide +kernel
theorem dX6_who_20 : decode cX6_who 20 = .ok (.invokevirtual 156, 3) := by decide +kernel
theorem dX6_who_23 : decode cX6_who 23 = .ok (.istore_n 3, 1) := by decide +kernel
theorem dX6_who_24 : decode cX6_who 24 = .ok (.aload_n 0, 1) := by decide +kernel
theorem dX6_who_25 : decode cX6_who 25 = .ok (.getfield 25, 3) := by decide +kernel
theorem dX6_who_28 : decode cX6_who 28 = .ok (.iload_n 2, 1) := by decide +kernel
theorem dX6_who_29 : decode cX6_who 29 = .ok (.iaload, 1) := by decide +kernel
theorem dX6_who_30 : decode cX6_who 30 = .ok (.iconst 1, 1) := by decide +kernel
theorem dX6_who_31 : decode cX6_who 31 = .ok (.isub, 1) := by decide +kernel
theorem dX6_who_32 : decode cX6_who 32 = .ok (.ireturn, 1) := by decide +kernel
theorem dX6_trial_0 : decode cX6_trial 0 = .ok (.aload_n 0, 1) := by decide +kernel
theorem dX6_trial_1 : decode cX6_trial 1 = .ok (.iload_n 1, 1) := by decide +kernel
theorem dX6_trial_2 : decode cX6_trial 2 = .ok (.invokevirtual 104, 3) := by decide +kernel
theorem dX6_trial_5 : decode cX6_trial 5 = .ok (.ifCond .eq 10, 3) := by decide +kernel
theorem dX6_trial_8 : decode cX6_trial 8 = .ok (.iload_n 2, 1) := by decide +kernel
theorem dX6_trial_9 : decode cX6_trial 9 = .ok (.invokestatic 137, 3) := by decide +kernel
theorem dX6_trial_12 : decode cX6_trial 12 = .ok (.ifCond .ne 6, 3) := by decide +kernel
theorem dX6_trial_15 : decode cX6_trial 15 = .ok (.bipush (-101), 2) := by decide +kernel
theorem dX6_trial_17 : decode cX6_trial 17 = .ok (.ireturn, 1) := by decide +kernel
theorem dX6_trial_18 : decode cX6_trial 18 = .ok (.aload_n 0, 1) := by decide +kernel
theorem dX6_trial_19 : decode cX6_trial 19 = .ok (.getfield 91, 3) := by decide +kernel
theorem dX6_trial_22 : decode cX6_trial 22 = .ok (.bipush 8, 2) := by decide +kernel
theorem dX6_trial_24 : decode cX6_trial 24 = .ok (.if_icmp .ne 6, 3) := by decide +kernel
theorem dX6_trial_27 : decode cX6_trial 27 = .ok (.bipush (-104), 2) := by decide +kernel
theorem dX6_trial_29 : decode cX6_trial 29 = .ok (.ireturn, 1) := by decide +kernel
theorem dX6_trial_30 : decode cX6_trial 30 = .ok (.aload_n 0, 1) := by decide +kernel
theorem dX6_trial_31 : decode cX6_trial 31 = .ok (.getfield 31, 3) := by decide +kernel
theorem dX6_trial_34 : decode cX6_trial 34 = .ok (.iconst 3, 1) := by decide +kernel
theorem dX6_trial_35 : decode cX6_trial 35 = .ok (.aload_n 0, 1) := by decide +kernel
theorem dX6_trial_36 : decode cX6_trial 36 = .ok (.getfield 91, 3) := by decide +kernel
theorem dX6_trial_39 : decode cX6_trial 39 = .ok (.imul, 1) := by decide +kernel
theorem dX6_trial_40 : decode cX6_trial 40 = .ok (.iload_n 1, 1) := by decide +kernel
theorem dX6_trial_41 : decode cX6_trial 41 = .ok (.iastore, 1) := by decide +kernel
theorem dX6_trial_42 : decode cX6_trial 42 = .ok (.aload_n 0, 1) := by decide +kernel
theorem dX6_trial_43 : decode cX6_trial 43 = .ok (.getfield 31, 3) := by decide +kernel
theorem dX6_trial_46 : decode cX6_trial 46 = .ok (.iconst 3, 1) := by decide +kernel
theorem dX6_trial_47 : decode cX6_trial 47 = .ok (.aload_n 0, 1) := by decide +kernel
theorem dX6_trial_48 : decode cX6_trial 48 = .ok (.getfield 91, 3) := by decide +kernel
theorem dX6_trial_51 : decode cX6_trial 51 = .ok (.imul, 1) := by decide +kernel
theorem dX6_trial_52 : decode cX6_trial 52 = .ok (.iconst 1, 1) := by decide +kernel
theorem dX6_trial_53 : decode cX6_trial 53 = .ok (.iadd, 1) := by decide +kernel
theorem dX6_trial_54 : decode cX6_trial 54 = .ok (.iload_n 2, 1) := by decide +kernel
theorem dX6_trial_55 : decode cX6_trial 55 = .ok (.iastore, 1) := by decide +kernel
theorem dX6_trial_56 : decode cX6_trial 56 = .ok (.aload_n 0, 1) := by decide +kernel
theorem dX6_trial_57 : decode cX6_trial 57 = .ok (.getfield 31, 3) := by decide +kernel
theorem dX6_trial_60 : decode cX6_trial 60 = .ok (.iconst 3, 1) := by decide +kernel
theorem dX6_trial_61 : decode cX6_trial 61 = .ok (.aload_n 0, 1) := by decide +kernel
theorem dX6_trial_62 : decode cX6_trial 62 = .ok (.getfield 91, 3) := by decide +kernel
theorem dX6_trial_65 : decode cX6_trial 65 = .ok (.imul, 1) := by decide +kernel
theorem dX6_trial_66 : decode cX6_trial 66 = .ok (.iconst 2, 1) := by decide +kernel
theorem dX6_trial_67 : decode cX6_trial 67 = .ok (.iadd, 1) := by decide +kernel
theorem dX6_trial_68 : decode cX6_trial 68 = .ok (.iload_n 3, 1) := by decide +kernel
theorem dX6_trial_69 : decode cX6_trial 69 = .ok (.ifCond .eq 7, 3) := by decide +kernel
theorem dX6_trial_72 : decode cX6_trial 72 = .ok (.iconst 1, 1) := by decide +kernel
theorem dX6_trial_73 : decode cX6_trial 73 = .ok (.goto 4, 3) := by decide +kernel
theorem dX6_trial_76 : decode cX6_trial 76 = .ok (.iconst 0, 1) := by decide +kernel
theorem dX6_trial_77 : decode cX6_trial 77 = .ok (.iastore, 1) := by decide +kernel
theorem dX6_trial_78 : decode cX6_trial 78 = .ok (.aload_n 0, 1) := by decide +kernel
theorem dX6_trial_79 : decode cX6_trial 79 = .ok (.dup, 1) := by decide +kernel
theorem dX6_trial_80 : decode cX6_trial 80 = .ok (.getfield 91, 3) := by decide +kernel
theorem dX6_trial_83 : decode cX6_trial 83 = .ok (.iconst 1, 1) := by decide +kernel
theorem dX6_trial_84 : decode cX6_trial 84 = .ok (.iadd, 1) := by decide +kernel
theorem dX6_trial_85 : decode cX6_trial 85 = .ok (.putfield 91, 3) := by decide +kernel
theorem dX6_trial_88 : decode cX6_trial 88 = .ok (.aload_n 0, 1) := by decide +kernel
theorem dX6_trial_89 : decode cX6_trial 89 = .ok (.getfield 91, 3) := by decide +kernel
theorem dX6_trial_92 : decode cX6_trial 92 = .ok (.ireturn, 1) := by decide +kernel
theorem dX6_forget_0 : decode cX6_forget 0 = .ok (.aload_n 0, 1) := by decide +kernel
theorem dX6_forget_1 : decode cX6_forget 1 = .ok (.getfield 91, 3) := by decide +kernel
theorem dX6_forget_4 : decode cX6_forget 4 = .ok (.istore_n 1, 1) := by decide +kernel
theorem dX6_forget_5 : decode cX6_forget 5 = .ok (.aload_n 0, 1) := by decide +kernel
theorem dX6_forget_6 : decode cX6_forget 6 = .ok (.iconst 0, 1) := by decide +kernel
theorem dX6_forget_7 : decode cX6_forget 7 = .ok (.putfield 91, 3) := by decide +kernel
theorem dX6_forget_10 : decode cX6_forget 10 = .ok (.iload_n 1, 1) := by decide +kernel
theorem dX6_forget_11 : decode cX6_forget 11 = .ok (.ireturn, 1) := by decide +kernel
theorem dX6_isTried_0 : decode cX6_isTried 0 = .ok (.iconst 1, 1) := by decide +kernel
theorem dX6_isTried_1 : decode cX6_isTried 1 = .ok (.istore_n 3, 1) := by decide +kernel
theorem dX6_isTried_2 : decode cX6_isTried 2 = .ok (.iconst 0, 1) := by decide +kernel
theorem dX6_isTried_3 : decode cX6_isTried 3 = .ok (.istore 4, 2) := by decide +kernel
theorem dX6_isTried_5 : decode cX6_isTried 5 = .ok (.iload 4, 2) := by decide +kernel
theorem dX6_isTried_7 : decode cX6_isTried 7 = .ok (.aload_n 0, 1) := by decide +kernel
theorem dX6_isTried_8 : decode cX6_isTried 8 = .ok (.getfield 91, 3) := by decide +kernel
theorem dX6_isTried_11 : decode cX6_isTried 11 = .ok (.if_icmp .ge 61, 3) := by decide +kernel
theorem dX6_isTried_14 : decode cX6_isTried 14 = .ok (.iload_n 3, 1) := by decide +kernel
theorem dX6_isTried_15 : decode cX6_isTried 15 = .ok (.ifCond .eq 49, 3) := by decide +kernel
theorem dX6_isTried_18 : decode cX6_isTried 18 = .ok (.aload_n 0, 1) := by decide +kernel
theorem dX6_isTried_19 : decode cX6_isTried 19 = .ok (.getfield 31, 3) := by decide +kernel
theorem dX6_isTried_22 : decode cX6_isTried 22 = .ok (.iconst 3, 1) := by decide +kernel
theorem dX6_isTried_23 : decode cX6_isTried 23 = .ok (.iload 4, 2) := by decide +kernel
theorem dX6_isTried_25 : decode cX6_isTried 25 = .ok (.imul, 1) := by decide +kernel
theorem dX6_isTried_26 : decode cX6_isTried 26 = .ok (.iaload, 1) := by decide +kernel
theorem dX6_isTried_27 : decode cX6_isTried 27 = .ok (.iload_n 1, 1) := by decide +kernel
theorem dX6_isTried_28 : decode cX6_isTried 28 = .ok (.if_icmp .ne 32, 3) := by decide +kernel
theorem dX6_isTried_31 : decode cX6_isTried 31 = .ok (.iload_n 2, 1) := by decide +kernel
theorem dX6_isTried_32 : decode cX6_isTried 32 = .ok (.aload_n 0, 1) := by decide +kernel
theorem dX6_isTried_33 : decode cX6_isTried 33 = .ok (.getfield 31, 3) := by decide +kernel
theorem dX6_isTried_36 : decode cX6_isTried 36 = .ok (.iconst 3, 1) := by decide +kernel
theorem dX6_isTried_37 : decode cX6_isTried 37 = .ok (.iload 4, 2) := by decide +kernel
theorem dX6_isTried_39 : decode cX6_isTried 39 = .ok (.imul, 1) := by decide +kernel
theorem dX6_isTried_40 : decode cX6_isTried 40 = .ok (.iconst 1, 1) := by decide +kernel
theorem dX6_isTried_41 : decode cX6_isTried 41 = .ok (.iadd, 1) := by decide +kernel
theorem dX6_isTried_42 : decode cX6_isTried 42 = .ok (.iaload, 1) := by decide +kernel
theorem dX6_isTried_43 : decode cX6_isTried 43 = .ok (.ishr, 1) := by decide +kernel
theorem dX6_isTried_44 : decode cX6_isTried 44 = .ok (.iconst 1, 1) := by decide +kernel
theorem dX6_isTried_45 : decode cX6_isTried 45 = .ok (.iand, 1) := by decide +kernel
theorem dX6_isTried_46 : decode cX6_isTried 46 = .ok (.aload_n 0, 1) := by decide +kernel
theorem dX6_isTried_47 : decode cX6_isTried 47 = .ok (.getfield 31, 3) := by decide +kernel
theorem dX6_isTried_50 : decode cX6_isTried 50 = .ok (.iconst 3, 1) := by decide +kernel
theorem dX6_isTried_51 : decode cX6_isTried 51 = .ok (.iload 4, 2) := by decide +kernel
theorem dX6_isTried_53 : decode cX6_isTried 53 = .ok (.imul, 1) := by decide +kernel
theorem dX6_isTried_54 : decode cX6_isTried 54 = .ok (.iconst 2, 1) := by decide +kernel
theorem dX6_isTried_55 : decode cX6_isTried 55 = .ok (.iadd, 1) := by decide +kernel
theorem dX6_isTried_56 : decode cX6_isTried 56 = .ok (.iaload, 1) := by decide +kernel
theorem dX6_isTried_57 : decode cX6_isTried 57 = .ok (.if_icmp .ne 7, 3) := by decide +kernel
theorem dX6_isTried_60 : decode cX6_isTried 60 = .ok (.iconst 1, 1) := by decide +kernel
theorem dX6_isTried_61 : decode cX6_isTried 61 = .ok (.goto 4, 3) := by decide +kernel
theorem dX6_isTried_64 : decode cX6_isTried 64 = .ok (.iconst 0, 1) := by decide +kernel
theorem dX6_isTried_65 : decode cX6_isTried 65 = .ok (.istore_n 3, 1) := by decide +kernel
theorem dX6_isTried_66 : decode cX6_isTried 66 = .ok (.iinc 4 1, 3) := by decide +kernel
theorem dX6_isTried_69 : decode cX6_isTried 69 = .ok (.goto (-64), 3) := by decide +kernel
theorem dX6_isTried_72 : decode cX6_isTried 72 = .ok (.iload_n 3, 1) := by decide +kernel
theorem dX6_isTried_73 : decode cX6_isTried 73 = .ok (.ireturn, 1) := by decide +kernel
theorem dX6_truthsOf_0 : decode cX6_truthsOf 0 = .ok (.iconst 0, 1) := by decide +kernel
theorem dX6_truthsOf_1 : decode cX6_truthsOf 1 = .ok (.istore_n 3, 1) := by decide +kernel
theorem dX6_truthsOf_2 : decode cX6_truthsOf 2 = .ok (.iconst (-1), 1) := by decide +kernel
theorem dX6_truthsOf_3 : decode cX6_truthsOf 3 = .ok (.istore 4, 2) := by decide +kernel
theorem dX6_truthsOf_5 : decode cX6_truthsOf 5 = .ok (.bipush 63, 2) := by decide +kernel
theorem dX6_truthsOf_7 : decode cX6_truthsOf 7 = .ok (.istore 5, 2) := by decide +kernel
theorem dX6_truthsOf_9 : decode cX6_truthsOf 9 = .ok (.bipush 63, 2) := by decide +kernel
theorem dX6_truthsOf_11 : decode cX6_truthsOf 11 = .ok (.istore 6, 2) := by decide +kernel
theorem dX6_truthsOf_13 : decode cX6_truthsOf 13 = .ok (.iload 6, 2) := by decide +kernel
theorem dX6_truthsOf_15 : decode cX6_truthsOf 15 = .ok (.ifCond .lt 33, 3) := by decide +kernel
theorem dX6_truthsOf_18 : decode cX6_truthsOf 18 = .ok (.aload_n 0, 1) := by decide +kernel
theorem dX6_truthsOf_19 : decode cX6_truthsOf 19 = .ok (.iload_n 1, 1) := by decide +kernel
theorem dX6_truthsOf_20 : decode cX6_truthsOf 20 = .ok (.iload 6, 2) := by decide +kernel
theorem dX6_truthsOf_22 : decode cX6_truthsOf 22 = .ok (.invokevirtual 165, 3) := by decide +kernel
theorem dX6_truthsOf_25 : decode cX6_truthsOf 25 = .ok (.ifCond .eq 17, 3) := by decide +kernel
theorem dX6_truthsOf_28 : decode cX6_truthsOf 28 = .ok (.iinc 3 1, 3) := by decide +kernel
theorem dX6_truthsOf_31 : decode cX6_truthsOf 31 = .ok (.iload 6, 2) := by decide +kernel
theorem dX6_truthsOf_33 : decode cX6_truthsOf 33 = .ok (.istore 4, 2) := by decide +kernel
theorem dX6_truthsOf_35 : decode cX6_truthsOf 35 = .ok (.iload 5, 2) := by decide +kernel
theorem dX6_truthsOf_37 : decode cX6_truthsOf 37 = .ok (.iload 6, 2) := by decide +kernel
theorem dX6_truthsOf_39 : decode cX6_truthsOf 39 = .ok (.iand, 1) := by decide +kernel
theorem dX6_truthsOf_40 : decode cX6_truthsOf 40 = .ok (.istore 5, 2) := by decide +kernel
theorem dX6_truthsOf_42 : decode cX6_truthsOf 42 = .ok (.iinc 6 (-1), 3) := by decide +kernel
theorem dX6_truthsOf_45 : decode cX6_truthsOf 45 = .ok (.goto (-32), 3) := by decide +kernel
theorem dX6_truthsOf_48 : decode cX6_truthsOf 48 = .ok (.iload_n 2, 1) := by decide +kernel
theorem dX6_truthsOf_49 : decode cX6_truthsOf 49 = .ok (.ifCond .ne 7, 3) := by decide +kernel
theorem dX6_truthsOf_52 : decode cX6_truthsOf 52 = .ok (.iload_n 3, 1) := by decide +kernel
theorem dX6_truthsOf_53 : decode cX6_truthsOf 53 = .ok (.goto 19, 3) := by decide +kernel
theorem dX6_truthsOf_56 : decode cX6_truthsOf 56 = .ok (.iload_n 2, 1) := by decide +kernel
theorem dX6_truthsOf_57 : decode cX6_truthsOf 57 = .ok (.iconst 1, 1) := by decide +kernel
theorem dX6_truthsOf_58 : decode cX6_truthsOf 58 = .ok (.if_icmp .eq 7, 3) := by decide +kernel
theorem dX6_truthsOf_61 : decode cX6_truthsOf 61 = .ok (.iload_n 3, 1) := by decide +kernel
theorem dX6_truthsOf_62 : decode cX6_truthsOf 62 = .ok (.ifCond .ne 8, 3) := by decide +kernel
theorem dX6_truthsOf_65 : decode cX6_truthsOf 65 = .ok (.iload 4, 2) := by decide +kernel
theorem dX6_truthsOf_67 : decode cX6_truthsOf 67 = .ok (.goto 5, 3) := by decide +kernel
theorem dX6_truthsOf_70 : decode cX6_truthsOf 70 = .ok (.iload 5, 2) := by decide +kernel
theorem dX6_truthsOf_72 : decode cX6_truthsOf 72 = .ok (.ireturn, 1) := by decide +kernel
theorem dX6_truths_0 : decode cX6_truths 0 = .ok (.aload_n 0, 1) := by decide +kernel
theorem dX6_truths_1 : decode cX6_truths 1 = .ok (.iload_n 1, 1) := by decide +kernel
theorem dX6_truths_2 : decode cX6_truths 2 = .ok (.invokevirtual 104, 3) := by decide +kernel
theorem dX6_truths_5 : decode cX6_truths 5 = .ok (.ifCond .ne 6, 3) := by decide +kernel
theorem dX6_truths_8 : decode cX6_truths 8 = .ok (.bipush (-101), 2) := by decide +kernel
theorem dX6_truths_10 : decode cX6_truths 10 = .ok (.ireturn, 1) := by decide +kernel
theorem dX6_truths_11 : decode cX6_truths 11 = .ok (.iload_n 2, 1) := by decide +kernel
theorem dX6_truths_12 : decode cX6_truths 12 = .ok (.i2l, 1) := by decide +kernel
theorem dX6_truths_13 : decode cX6_truths 13 = .ok (.lconst 0, 1) := by decide +kernel
theorem dX6_truths_14 : decode cX6_truths 14 = .ok (.ldc2_w 100, 3) := by decide +kernel
theorem dX6_truths_17 : decode cX6_truths 17 = .ok (.invokestatic 55, 3) := by decide +kernel
theorem dX6_truths_20 : decode cX6_truths 20 = .ok (.ifCond .eq 12, 3) := by decide +kernel
theorem dX6_truths_23 : decode cX6_truths 23 = .ok (.aload_n 0, 1) := by decide +kernel
theorem dX6_truths_24 : decode cX6_truths 24 = .ok (.iload_n 1, 1) := by decide +kernel
theorem dX6_truths_25 : decode cX6_truths 25 = .ok (.iload_n 2, 1) := by decide +kernel
theorem dX6_truths_26 : decode cX6_truths 26 = .ok (.invokevirtual 168, 3) := by decide +kernel
theorem dX6_truths_29 : decode cX6_truths 29 = .ok (.goto 5, 3) := by decide +kernel
theorem dX6_truths_32 : decode cX6_truths 32 = .ok (.bipush (-102), 2) := by decide +kernel
theorem dX6_truths_34 : decode cX6_truths 34 = .ok (.ireturn, 1) := by decide +kernel
theorem dX6_attemptOf_0 : decode cX6_attemptOf 0 = .ok (.iconst (-1), 1) := by decide +kernel
theorem dX6_attemptOf_1 : decode cX6_attemptOf 1 = .ok (.istore_n 2, 1) := by decide +kernel
theorem dX6_attemptOf_2 : decode cX6_attemptOf 2 = .ok (.bipush 65, 2) := by decide +kernel
theorem dX6_attemptOf_4 : decode cX6_attemptOf 4 = .ok (.istore_n 3, 1) := by decide +kernel
theorem dX6_attemptOf_5 : decode cX6_attemptOf 5 = .ok (.iconst 0, 1) := by decide +kernel
theorem dX6_attemptOf_6 : decode cX6_attemptOf 6 = .ok (.istore 4, 2) := by decide +kernel
theorem dX6_attemptOf_8 : decode cX6_attemptOf 8 = .ok (.iload 4, 2) := by decide +kernel
theorem dX6_attemptOf_10 : decode cX6_attemptOf 10 = .ok (.bipush 6, 2) := by decide +kernel
theorem dX6_attemptOf_12 : decode cX6_attemptOf 12 = .ok (.if_icmp .ge 138, 3) := by decide +kernel
theorem dX6_attemptOf_15 : decode cX6_attemptOf 15 = .ok (.iconst 0, 1) := by decide +kernel
theorem dX6_attemptOf_16 : decode cX6_attemptOf 16 = .ok (.istore 5, 2) := by decide +kernel
theorem dX6_attemptOf_18 : decode cX6_attemptOf 18 = .ok (.iconst 0, 1) := by decide +kernel
theorem dX6_attemptOf_19 : decode cX6_attemptOf 19 = .ok (.istore 6, 2) := by decide +kernel
theorem dX6_attemptOf_21 : decode cX6_attemptOf 21 = .ok (.iconst 0, 1) := by decide +kernel
theorem dX6_attemptOf_22 : decode cX6_attemptOf 22 = .ok (.istore 7, 2) := by decide +kernel
theorem dX6_attemptOf_24 : decode cX6_attemptOf 24 = .ok (.iload 7, 2) := by decide +kernel
theorem dX6_attemptOf_26 : decode cX6_attemptOf 26 = .ok (.bipush 64, 2) := by decide +kernel
theorem dX6_attemptOf_28 : decode cX6_attemptOf 28 = .ok (.if_icmp .ge 69, 3) := by decide +kernel
theorem dX6_attemptOf_31 : decode cX6_attemptOf 31 = .ok (.aload_n 0, 1) := by decide +kernel
theorem dX6_attemptOf_32 : decode cX6_attemptOf 32 = .ok (.iload_n 1, 1) := by decide +kernel
theorem dX6_attemptOf_33 : decode cX6_attemptOf 33 = .ok (.iload 7, 2) := by decide +kernel
theorem dX6_attemptOf_35 : decode cX6_attemptOf 35 = .ok (.invokevirtual 165, 3) := by decide +kernel
theorem dX6_attemptOf_38 : decode cX6_attemptOf 38 = .ok (.istore 8, 2) := by decide +kernel
theorem dX6_attemptOf_40 : decode cX6_attemptOf 40 = .ok (.iload 5, 2) := by decide +kernel
theorem dX6_attemptOf_42 : decode cX6_attemptOf 42 = .ok (.iload 8, 2) := by decide +kernel
theorem dX6_attemptOf_44 : decode cX6_attemptOf 44 = .ok (.ifCond .eq 18, 3) := by decide +kernel
theorem dX6_attemptOf_47 : decode cX6_attemptOf 47 = .ok (.iload 7, 2) := by decide +kernel
theorem dX6_attemptOf_49 : decode cX6_attemptOf 49 = .ok (.iload 4, 2) := by decide +kernel
theorem dX6_attemptOf_51 : decode cX6_attemptOf 51 = .ok (.ishr, 1) := by decide +kernel
theorem dX6_attemptOf_52 : decode cX6_attemptOf 52 = .ok (.iconst 1, 1) := by decide +kernel
theorem dX6_attemptOf_53 : decode cX6_attemptOf 53 = .ok (.iand, 1) := by decide +kernel
theorem dX6_attemptOf_54 : decode cX6_attemptOf 54 = .ok (.iconst 1, 1) := by decide +kernel
theorem dX6_attemptOf_55 : decode cX6_attemptOf 55 = .ok (.if_icmp .ne 7, 3) := by decide +kernel
theorem dX6_attemptOf_58 : decode cX6_attemptOf 58 = .ok (.iconst 1, 1) := by decide +kernel
theorem dX6_attemptOf_59 : decode cX6_attemptOf 59 = .ok (.goto 4, 3) := by decide +kernel
theorem dX6_attemptOf_62 : decode cX6_attemptOf 62 = .ok (.iconst 0, 1) := by decide +kernel
theorem dX6_attemptOf_63 : decode cX6_attemptOf 63 = .ok (.iadd, 1) := by decide +kernel
theorem dX6_attemptOf_64 : decode cX6_attemptOf 64 = .ok (.istore 5, 2) := by decide +kernel
theorem dX6_attemptOf_66 : decode cX6_attemptOf 66 = .ok (.iload 6, 2) := by decide +kernel
theorem dX6_attemptOf_68 : decode cX6_attemptOf 68 = .ok (.iload 8, 2) := by decide +kernel
theorem dX6_attemptOf_70 : decode cX6_attemptOf 70 = .ok (.ifCond .eq 17, 3) := by decide +kernel
theorem dX6_attemptOf_73 : decode cX6_attemptOf 73 = .ok (.iload 7, 2) := by decide +kernel
theorem dX6_attemptOf_75 : decode cX6_attemptOf 75 = .ok (.iload 4, 2) := by decide +kernel
theorem dX6_attemptOf_77 : decode cX6_attemptOf 77 = .ok (.ishr, 1) := by decide +kernel
theorem dX6_attemptOf_78 : decode cX6_attemptOf 78 = .ok (.iconst 1, 1) := by decide +kernel
theorem dX6_attemptOf_79 : decode cX6_attemptOf 79 = .ok (.iand, 1) := by decide +kernel
theorem dX6_attemptOf_80 : decode cX6_attemptOf 80 = .ok (.ifCond .ne 7, 3) := by decide +kernel
theorem dX6_attemptOf_83 : decode cX6_attemptOf 83 = .ok (.iconst 1, 1) := by decide +kernel
theorem dX6_attemptOf_84 : decode cX6_attemptOf 84 = .ok (.goto 4, 3) := by decide +kernel
theorem dX6_attemptOf_87 : decode cX6_attemptOf 87 = .ok (.iconst 0, 1) := by decide +kernel
theorem dX6_attemptOf_88 : decode cX6_attemptOf 88 = .ok (.iadd, 1) := by decide +kernel
theorem dX6_attemptOf_89 : decode cX6_attemptOf 89 = .ok (.istore 6, 2) := by decide +kernel
theorem dX6_attemptOf_91 : decode cX6_attemptOf 91 = .ok (.iinc 7 1, 3) := by decide +kernel
theorem dX6_attemptOf_94 : decode cX6_attemptOf 94 = .ok (.goto (-70), 3) := by decide +kernel
theorem dX6_attemptOf_97 : decode cX6_attemptOf 97 = .ok (.iload 5, 2) := by decide +kernel
theorem dX6_attemptOf_99 : decode cX6_attemptOf 99 = .ok (.iload 6, 2) := by decide +kernel
theorem dX6_attemptOf_101 : decode cX6_attemptOf 101 = .ok (.if_icmp .le 8, 3) := by decide +kernel
theorem dX6_attemptOf_104 : decode cX6_attemptOf 104 = .ok (.iload 5, 2) := by decide +kernel
theorem dX6_attemptOf_106 : decode cX6_attemptOf 106 = .ok (.goto 5, 3) := by decide +kernel
theorem dX6_attemptOf_109 : decode cX6_attemptOf 109 = .ok (.iload 6, 2) := by decide +kernel
theorem dX6_attemptOf_111 : decode cX6_attemptOf 111 = .ok (.istore 7, 2) := by decide +kernel
theorem dX6_attemptOf_113 : decode cX6_attemptOf 113 = .ok (.iload 7, 2) := by decide +kernel
theorem dX6_attemptOf_115 : decode cX6_attemptOf 115 = .ok (.ifCond .le 14, 3) := by decide +kernel
theorem dX6_attemptOf_118 : decode cX6_attemptOf 118 = .ok (.iload 7, 2) := by decide +kernel
theorem dX6_attemptOf_120 : decode cX6_attemptOf 120 = .ok (.iload_n 3, 1) := by decide +kernel
theorem dX6_attemptOf_121 : decode cX6_attemptOf 121 = .ok (.if_icmp .ge 8, 3) := by decide +kernel
theorem dX6_attemptOf_124 : decode cX6_attemptOf 124 = .ok (.iload 4, 2) := by decide +kernel
theorem dX6_attemptOf_126 : decode cX6_attemptOf 126 = .ok (.goto 4, 3) := by decide +kernel
theorem dX6_attemptOf_129 : decode cX6_attemptOf 129 = .ok (.iload_n 2, 1) := by decide +kernel
theorem dX6_attemptOf_130 : decode cX6_attemptOf 130 = .ok (.istore_n 2, 1) := by decide +kernel
theorem dX6_attemptOf_131 : decode cX6_attemptOf 131 = .ok (.iload 7, 2) := by decide +kernel
theorem dX6_attemptOf_133 : decode cX6_attemptOf 133 = .ok (.iload_n 3, 1) := by decide +kernel
theorem dX6_attemptOf_134 : decode cX6_attemptOf 134 = .ok (.if_icmp .ge 8, 3) := by decide +kernel
theorem dX6_attemptOf_137 : decode cX6_attemptOf 137 = .ok (.iload 7, 2) := by decide +kernel
theorem dX6_attemptOf_139 : decode cX6_attemptOf 139 = .ok (.goto 4, 3) := by decide +kernel
theorem dX6_attemptOf_142 : decode cX6_attemptOf 142 = .ok (.iload_n 3, 1) := by decide +kernel
theorem dX6_attemptOf_143 : decode cX6_attemptOf 143 = .ok (.istore_n 3, 1) := by decide +kernel
theorem dX6_attemptOf_144 : decode cX6_attemptOf 144 = .ok (.iinc 4 1, 3) := by decide +kernel
theorem dX6_attemptOf_147 : decode cX6_attemptOf 147 = .ok (.goto (-139), 3) := by decide +kernel
theorem dX6_attemptOf_150 : decode cX6_attemptOf 150 = .ok (.iload_n 2, 1) := by decide +kernel
theorem dX6_attemptOf_151 : decode cX6_attemptOf 151 = .ok (.ireturn, 1) := by decide +kernel
theorem dX6_attempt_0 : decode cX6_attempt 0 = .ok (.aload_n 0, 1) := by decide +kernel
theorem dX6_attempt_1 : decode cX6_attempt 1 = .ok (.iload_n 1, 1) := by decide +kernel
theorem dX6_attempt_2 : decode cX6_attempt 2 = .ok (.invokevirtual 104, 3) := by decide +kernel
theorem dX6_attempt_5 : decode cX6_attempt 5 = .ok (.ifCond .eq 11, 3) := by decide +kernel
theorem dX6_attempt_8 : decode cX6_attempt 8 = .ok (.aload_n 0, 1) := by decide +kernel
theorem dX6_attempt_9 : decode cX6_attempt 9 = .ok (.iload_n 1, 1) := by decide +kernel
theorem dX6_attempt_10 : decode cX6_attempt 10 = .ok (.invokevirtual 171, 3) := by decide +kernel
theorem dX6_attempt_13 : decode cX6_attempt 13 = .ok (.goto 5, 3) := by decide +kernel
theorem dX6_attempt_16 : decode cX6_attempt 16 = .ok (.bipush (-101), 2) := by decide +kernel
theorem dX6_attempt_18 : decode cX6_attempt 18 = .ok (.ireturn, 1) := by decide +kernel
theorem dX6_draw_0 : decode cX6_draw 0 = .ok (.aload_n 0, 1) := by decide +kernel
theorem dX6_draw_1 : decode cX6_draw 1 = .ok (.ldc2_w 174, 3) := by decide +kernel
theorem dX6_draw_4 : decode cX6_draw 4 = .ok (.aload_n 0, 1) := by decide +kernel
theorem dX6_draw_5 : decode cX6_draw 5 = .ok (.getfield 176, 3) := by decide +kernel
theorem dX6_draw_8 : decode cX6_draw 8 = .ok (.i2l, 1) := by decide +kernel
theorem dX6_draw_9 : decode cX6_draw 9 = .ok (.lmul, 1) := by decide +kernel
theorem dX6_draw_10 : decode cX6_draw 10 = .ok (.ldc2_w 179, 3) := by decide +kernel
theorem dX6_draw_13 : decode cX6_draw 13 = .ok (.ladd, 1) := by decide +kernel
theorem dX6_draw_14 : decode cX6_draw 14 = .ok (.ldc2_w 181, 3) := by decide +kernel
theorem dX6_draw_17 : decode cX6_draw 17 = .ok (.land, 1) := by decide +kernel
theorem dX6_draw_18 : decode cX6_draw 18 = .ok (.l2i, 1) := by decide +kernel
theorem dX6_draw_19 : decode cX6_draw 19 = .ok (.putfield 176, 3) := by decide +kernel
theorem dX6_draw_22 : decode cX6_draw 22 = .ok (.aload_n 0, 1) := by decide +kernel
theorem dX6_draw_23 : decode cX6_draw 23 = .ok (.getfield 176, 3) := by decide +kernel
theorem dX6_draw_26 : decode cX6_draw 26 = .ok (.ldc 183, 2) := by decide +kernel
theorem dX6_draw_28 : decode cX6_draw 28 = .ok (.idiv, 1) := by decide +kernel
theorem dX6_draw_29 : decode cX6_draw 29 = .ok (.iload_n 1, 1) := by decide +kernel
theorem dX6_draw_30 : decode cX6_draw 30 = .ok (.irem, 1) := by decide +kernel
theorem dX6_draw_31 : decode cX6_draw 31 = .ok (.ireturn, 1) := by decide +kernel
theorem dX6_paidMany_0 : decode cX6_paidMany 0 = .ok (.iconst 0, 1) := by decide +kernel
theorem dX6_paidMany_1 : decode cX6_paidMany 1 = .ok (.istore_n 1, 1) := by decide +kernel
theorem dX6_paidMany_2 : decode cX6_paidMany 2 = .ok (.iconst 0, 1) := by decide +kernel
theorem dX6_paidMany_3 : decode cX6_paidMany 3 = .ok (.istore_n 2, 1) := by decide +kernel
theorem dX6_paidMany_4 : decode cX6_paidMany 4 = .ok (.iload_n 2, 1) := by decide +kernel
theorem dX6_paidMany_5 : decode cX6_paidMany 5 = .ok (.aload_n 0, 1) := by decide +kernel
theorem dX6_paidMany_6 : decode cX6_paidMany 6 = .ok (.getfield 88, 3) := by decide +kernel
theorem dX6_paidMany_9 : decode cX6_paidMany 9 = .ok (.if_icmp .ge 31, 3) := by decide +kernel
theorem dX6_paidMany_12 : decode cX6_paidMany 12 = .ok (.iload_n 1, 1) := by decide +kernel
theorem dX6_paidMany_13 : decode cX6_paidMany 13 = .ok (.aload_n 0, 1) := by decide +kernel
theorem dX6_paidMany_14 : decode cX6_paidMany 14 = .ok (.getfield 19, 3) := by decide +kernel
theorem dX6_paidMany_17 : decode cX6_paidMany 17 = .ok (.bipush 6, 2) := by decide +kernel
theorem dX6_paidMany_19 : decode cX6_paidMany 19 = .ok (.iload_n 2, 1) := by decide +kernel
theorem dX6_paidMany_20 : decode cX6_paidMany 20 = .ok (.imul, 1) := by decide +kernel
theorem dX6_paidMany_21 : decode cX6_paidMany 21 = .ok (.iconst 2, 1) := by decide +kernel
theorem dX6_paidMany_22 : decode cX6_paidMany 22 = .ok (.iadd, 1) := by decide +kernel
theorem dX6_paidMany_23 : decode cX6_paidMany 23 = .ok (.iaload, 1) := by decide +kernel
theorem dX6_paidMany_24 : decode cX6_paidMany 24 = .ok (.ifCond .ne 7, 3) := by decide +kernel
theorem dX6_paidMany_27 : decode cX6_paidMany 27 = .ok (.iconst 1, 1) := by decide +kernel
theorem dX6_paidMany_28 : decode cX6_paidMany 28 = .ok (.goto 4, 3) := by decide +kernel
theorem dX6_paidMany_31 : decode cX6_paidMany 31 = .ok (.iconst 0, 1) := by decide +kernel
theorem dX6_paidMany_32 : decode cX6_paidMany 32 = .ok (.iadd, 1) := by decide +kernel
theorem dX6_paidMany_33 : decode cX6_paidMany 33 = .ok (.istore_n 1, 1) := by decide +kernel
theorem dX6_paidMany_34 : decode cX6_paidMany 34 = .ok (.iinc 2 1, 3) := by decide +kernel
theorem dX6_paidMany_37 : decode cX6_paidMany 37 = .ok (.goto (-33), 3) := by decide +kernel
theorem dX6_paidMany_40 : decode cX6_paidMany 40 = .ok (.iload_n 1, 1) := by decide +kernel
theorem dX6_paidMany_41 : decode cX6_paidMany 41 = .ok (.ireturn, 1) := by decide +kernel
theorem dX6_dayOf_0 : decode cX6_dayOf 0 = .ok (.iconst 0, 1) := by decide +kernel
theorem dX6_dayOf_1 : decode cX6_dayOf 1 = .ok (.istore_n 2, 1) := by decide +kernel
theorem dX6_dayOf_2 : decode cX6_dayOf 2 = .ok (.aload_n 0, 1) := by decide +kernel
theorem dX6_dayOf_3 : decode cX6_dayOf 3 = .ok (.getfield 19, 3) := by decide +kernel
theorem dX6_dayOf_6 : decode cX6_dayOf 6 = .ok (.bipush 6, 2) := by decide +kernel
theorem dX6_dayOf_8 : decode cX6_dayOf 8 = .ok (.iload_n 1, 1) := by decide +kernel
theorem dX6_dayOf_9 : decode cX6_dayOf 9 = .ok (.imul, 1) := by decide +kernel
theorem dX6_dayOf_10 : decode cX6_dayOf 10 = .ok (.iconst 2, 1) := by decide +kernel
theorem dX6_dayOf_11 : decode cX6_dayOf 11 = .ok (.iadd, 1) := by decide +kernel
theorem dX6_dayOf_12 : decode cX6_dayOf 12 = .ok (.iaload, 1) := by decide +kernel
theorem dX6_dayOf_13 : decode cX6_dayOf 13 = .ok (.ifCond .le 64, 3) := by decide +kernel
theorem dX6_dayOf_16 : decode cX6_dayOf 16 = .ok (.aload_n 0, 1) := by decide +kernel
theorem dX6_dayOf_17 : decode cX6_dayOf 17 = .ok (.getfield 19, 3) := by decide +kernel
theorem dX6_dayOf_20 : decode cX6_dayOf 20 = .ok (.bipush 6, 2) := by decide +kernel
theorem dX6_dayOf_22 : decode cX6_dayOf 22 = .ok (.iload_n 1, 1) := by decide +kernel
theorem dX6_dayOf_23 : decode cX6_dayOf 23 = .ok (.imul, 1) := by decide +kernel
theorem dX6_dayOf_24 : decode cX6_dayOf 24 = .ok (.iconst 4, 1) := by decide +kernel
theorem dX6_dayOf_25 : decode cX6_dayOf 25 = .ok (.iadd, 1) := by decide +kernel
theorem dX6_dayOf_26 : decode cX6_dayOf 26 = .ok (.iaload, 1) := by decide +kernel
theorem dX6_dayOf_27 : decode cX6_dayOf 27 = .ok (.ifCond .le 50, 3) := by decide +kernel
theorem dX6_dayOf_30 : decode cX6_dayOf 30 = .ok (.aload_n 0, 1) := by decide +kernel
theorem dX6_dayOf_31 : decode cX6_dayOf 31 = .ok (.bipush 6, 2) := by decide +kernel
theorem dX6_dayOf_33 : decode cX6_dayOf 33 = .ok (.invokevirtual 184, 3) := by decide +kernel
theorem dX6_dayOf_36 : decode cX6_dayOf 36 = .ok (.istore_n 3, 1) := by decide +kernel
theorem dX6_dayOf_37 : decode cX6_dayOf 37 = .ok (.aload_n 0, 1) := by decide +kernel
theorem dX6_dayOf_38 : decode cX6_dayOf 38 = .ok (.getfield 19, 3) := by decide +kernel
theorem dX6_dayOf_41 : decode cX6_dayOf 41 = .ok (.bipush 6, 2) := by decide +kernel
theorem dX6_dayOf_43 : decode cX6_dayOf 43 = .ok (.iload_n 1, 1) := by decide +kernel
theorem dX6_dayOf_44 : decode cX6_dayOf 44 = .ok (.imul, 1) := by decide +kernel
theorem dX6_dayOf_45 : decode cX6_dayOf 45 = .ok (.iconst 4, 1) := by decide +kernel
theorem dX6_dayOf_46 : decode cX6_dayOf 46 = .ok (.iadd, 1) := by decide +kernel
theorem dX6_dayOf_47 : decode cX6_dayOf 47 = .ok (.dup2, 1) := by decide +kernel
theorem dX6_dayOf_48 : decode cX6_dayOf 48 = .ok (.iaload, 1) := by decide +kernel
theorem dX6_dayOf_49 : decode cX6_dayOf 49 = .ok (.iconst 1, 1) := by decide +kernel
theorem dX6_dayOf_50 : decode cX6_dayOf 50 = .ok (.isub, 1) := by decide +kernel
theorem dX6_dayOf_51 : decode cX6_dayOf 51 = .ok (.iastore, 1) := by decide +kernel
theorem dX6_dayOf_52 : decode cX6_dayOf 52 = .ok (.iload_n 2, 1) := by decide +kernel
theorem dX6_dayOf_53 : decode cX6_dayOf 53 = .ok (.aload_n 0, 1) := by decide +kernel
theorem dX6_dayOf_54 : decode cX6_dayOf 54 = .ok (.iload_n 1, 1) := by decide +kernel
theorem dX6_dayOf_55 : decode cX6_dayOf 55 = .ok (.iload_n 3, 1) := by decide +kernel
theorem dX6_dayOf_56 : decode cX6_dayOf 56 = .ok (.invokevirtual 140, 3) := by decide +kernel
theorem dX6_dayOf_59 : decode cX6_dayOf 59 = .ok (.ifCond .eq 12, 3) := by decide +kernel
theorem dX6_dayOf_62 : decode cX6_dayOf 62 = .ok (.aload_n 0, 1) := by decide +kernel
theorem dX6_dayOf_63 : decode cX6_dayOf 63 = .ok (.iload_n 1, 1) := by decide +kernel
theorem dX6_dayOf_64 : decode cX6_dayOf 64 = .ok (.iload_n 3, 1) := by decide +kernel
theorem dX6_dayOf_65 : decode cX6_dayOf 65 = .ok (.invokevirtual 143, 3) := by decide +kernel
theorem dX6_dayOf_68 : decode cX6_dayOf 68 = .ok (.goto 4, 3) := by decide +kernel
theorem dX6_dayOf_71 : decode cX6_dayOf 71 = .ok (.iconst 0, 1) := by decide +kernel
theorem dX6_dayOf_72 : decode cX6_dayOf 72 = .ok (.iadd, 1) := by decide +kernel
theorem dX6_dayOf_73 : decode cX6_dayOf 73 = .ok (.istore_n 2, 1) := by decide +kernel
theorem dX6_dayOf_74 : decode cX6_dayOf 74 = .ok (.goto (-72), 3) := by decide +kernel
theorem dX6_dayOf_77 : decode cX6_dayOf 77 = .ok (.iload_n 2, 1) := by decide +kernel
theorem dX6_dayOf_78 : decode cX6_dayOf 78 = .ok (.ireturn, 1) := by decide +kernel
theorem dX6_weeks_0 : decode cX6_weeks 0 = .ok (.iload_n 1, 1) := by decide +kernel
theorem dX6_weeks_1 : decode cX6_weeks 1 = .ok (.i2l, 1) := by decide +kernel
theorem dX6_weeks_2 : decode cX6_weeks 2 = .ok (.lconst 1, 1) := by decide +kernel
theorem dX6_weeks_3 : decode cX6_weeks 3 = .ok (.ldc2_w 187, 3) := by decide +kernel
theorem dX6_weeks_6 : decode cX6_weeks 6 = .ok (.invokestatic 55, 3) := by decide +kernel
theorem dX6_weeks_9 : decode cX6_weeks 9 = .ok (.ifCond .eq 19, 3) := by decide +kernel
theorem dX6_weeks_12 : decode cX6_weeks 12 = .ok (.iload_n 2, 1) := by decide +kernel
theorem dX6_weeks_13 : decode cX6_weeks 13 = .ok (.ifCond .lt 15, 3) := by decide +kernel
theorem dX6_weeks_16 : decode cX6_weeks 16 = .ok (.iload_n 3, 1) := by decide +kernel
theorem dX6_weeks_17 : decode cX6_weeks 17 = .ok (.i2l, 1) := by decide +kernel
theorem dX6_weeks_18 : decode cX6_weeks 18 = .ok (.lconst 0, 1) := by decide +kernel
theorem dX6_weeks_19 : decode cX6_weeks 19 = .ok (.ldc2_w 100, 3) := by decide +kernel
theorem dX6_weeks_22 : decode cX6_weeks 22 = .ok (.invokestatic 55, 3) := by decide +kernel
theorem dX6_weeks_25 : decode cX6_weeks 25 = .ok (.ifCond .ne 6, 3) := by decide +kernel
theorem dX6_weeks_28 : decode cX6_weeks 28 = .ok (.bipush (-102), 2) := by decide +kernel
theorem dX6_weeks_30 : decode cX6_weeks 30 = .ok (.ireturn, 1) := by decide +kernel
theorem dX6_weeks_31 : decode cX6_weeks 31 = .ok (.aload_n 0, 1) := by decide +kernel
theorem dX6_weeks_32 : decode cX6_weeks 32 = .ok (.getfield 88, 3) := by decide +kernel
theorem dX6_weeks_35 : decode cX6_weeks 35 = .ok (.ifCond .ne 6, 3) := by decide +kernel
theorem dX6_weeks_38 : decode cX6_weeks 38 = .ok (.bipush (-103), 2) := by decide +kernel
theorem dX6_weeks_40 : decode cX6_weeks 40 = .ok (.ireturn, 1) := by decide +kernel
theorem dX6_weeks_41 : decode cX6_weeks 41 = .ok (.aload_n 0, 1) := by decide +kernel
theorem dX6_weeks_42 : decode cX6_weeks 42 = .ok (.getfield 19, 3) := by decide +kernel
theorem dX6_weeks_45 : decode cX6_weeks 45 = .ok (.aload_n 0, 1) := by decide +kernel
theorem dX6_weeks_46 : decode cX6_weeks 46 = .ok (.getfield 34, 3) := by decide +kernel
theorem dX6_weeks_49 : decode cX6_weeks 49 = .ok (.invokestatic 152, 3) := by decide +kernel
theorem dX6_weeks_52 : decode cX6_weeks 52 = .ok (.aload_n 0, 1) := by decide +kernel
theorem dX6_weeks_53 : decode cX6_weeks 53 = .ok (.getfield 16, 3) := by decide +kernel
theorem dX6_weeks_56 : decode cX6_weeks 56 = .ok (.aload_n 0, 1) := by decide +kernel
theorem dX6_weeks_57 : decode cX6_weeks 57 = .ok (.getfield 37, 3) := by decide +kernel
theorem dX6_weeks_60 : decode cX6_weeks 60 = .ok (.invokestatic 152, 3) := by decide +kernel
theorem dX6_weeks_63 : decode cX6_weeks 63 = .ok (.aload_n 0, 1) := by decide +kernel
theorem dX6_weeks_64 : decode cX6_weeks 64 = .ok (.getfield 78, 3) := by decide +kernel
theorem dX6_weeks_67 : decode cX6_weeks 67 = .ok (.istore 4, 2) := by decide +kernel
theorem dX6_weeks_69 : decode cX6_weeks 69 = .ok (.aload_n 0, 1) := by decide +kernel
theorem dX6_weeks_70 : decode cX6_weeks 70 = .ok (.iload_n 2, 1) := by decide +kernel
theorem dX6_weeks_71 : decode cX6_weeks 71 = .ok (.putfield 176, 3) := by decide +kernel
theorem dX6_weeks_74 : decode cX6_weeks 74 = .ok (.iconst 0, 1) := by decide +kernel
theorem dX6_weeks_75 : decode cX6_weeks 75 = .ok (.istore 5, 2) := by decide +kernel
theorem dX6_weeks_77 : decode cX6_weeks 77 = .ok (.iconst 0, 1) := by decide +kernel
theorem dX6_weeks_78 : decode cX6_weeks 78 = .ok (.istore 6, 2) := by decide +kernel
theorem dX6_weeks_80 : decode cX6_weeks 80 = .ok (.iload 6, 2) := by decide +kernel
theorem dX6_weeks_82 : decode cX6_weeks 82 = .ok (.iload_n 1, 1) := by decide +kernel
theorem dX6_weeks_83 : decode cX6_weeks 83 = .ok (.if_icmp .ge 42, 3) := by decide +kernel
theorem dX6_weeks_86 : decode cX6_weeks 86 = .ok (.iconst 0, 1) := by decide +kernel
theorem dX6_weeks_87 : decode cX6_weeks 87 = .ok (.istore 7, 2) := by decide +kernel
theorem dX6_weeks_89 : decode cX6_weeks 89 = .ok (.iload 7, 2) := by decide +kernel
theorem dX6_weeks_91 : decode cX6_weeks 91 = .ok (.aload_n 0, 1) := by decide +kernel
theorem dX6_weeks_92 : decode cX6_weeks 92 = .ok (.getfield 88, 3) := by decide +kernel
theorem dX6_weeks_95 : decode cX6_weeks 95 = .ok (.if_icmp .ge 20, 3) := by decide +kernel
theorem dX6_weeks_98 : decode cX6_weeks 98 = .ok (.iload 5, 2) := by decide +kernel
theorem dX6_weeks_100 : decode cX6_weeks 100 = .ok (.aload_n 0, 1) := by decide +kernel
theorem dX6_weeks_101 : decode cX6_weeks 101 = .ok (.iload 7, 2) := by decide +kernel
theorem dX6_weeks_103 : decode cX6_weeks 103 = .ok (.invokevirtual 189, 3) := by decide +kernel
theorem dX6_weeks_106 : decode cX6_weeks 106 = .ok (.iadd, 1) := by decide +kernel
theorem dX6_weeks_107 : decode cX6_weeks 107 = .ok (.istore 5, 2) := by decide +kernel
theorem dX6_weeks_109 : decode cX6_weeks 109 = .ok (.iinc 7 1, 3) := by decide +kernel
theorem dX6_weeks_112 : decode cX6_weeks 112 = .ok (.goto (-23), 3) := by decide +kernel
theorem dX6_weeks_115 : decode cX6_weeks 115 = .ok (.aload_n 0, 1) := by decide +kernel
theorem dX6_weeks_116 : decode cX6_weeks 116 = .ok (.invokevirtual 146, 3) := by decide +kernel
theorem dX6_weeks_119 : decode cX6_weeks 119 = .ok (.iinc 6 1, 3) := by decide +kernel
theorem dX6_weeks_122 : decode cX6_weeks 122 = .ok (.goto (-42), 3) := by decide +kernel
theorem dX6_weeks_125 : decode cX6_weeks 125 = .ok (.aload_n 0, 1) := by decide +kernel
theorem dX6_weeks_126 : decode cX6_weeks 126 = .ok (.invokevirtual 192, 3) := by decide +kernel
theorem dX6_weeks_129 : decode cX6_weeks 129 = .ok (.istore 6, 2) := by decide +kernel
