theorem dX0_init_0 : decode cX0_init 0 = .ok (.aload_n 0, 1) := by decide +kernel
theorem dX0_init_1 : decode cX0_init 1 = .ok (.invokespecial 3, 3) := by decide +kernel
theorem dX0_init_4 : decode cX0_init 4 = .ok (.return_, 1) := by decide +kernel
theorem dX0_begin_0 : decode cX0_begin 0 = .ok (.aload_n 0, 1) := by decide +kernel
theorem dX0_begin_1 : decode cX0_begin 1 = .ok (.iload_n 1, 1) := by decide +kernel
theorem dX0_begin_2 : decode cX0_begin 2 = .ok (.putfield 9, 3) := by decide +kernel
theorem dX0_begin_5 : decode cX0_begin 5 = .ok (.aload_n 0, 1) := by decide +kernel
theorem dX0_begin_6 : decode cX0_begin 6 = .ok (.iload_n 2, 1) := by decide +kernel
theorem dX0_begin_7 : decode cX0_begin 7 = .ok (.putfield 15, 3) := by decide +kernel
theorem dX0_begin_10 : decode cX0_begin 10 = .ok (.aload_n 0, 1) := by decide +kernel
theorem dX0_begin_11 : decode cX0_begin 11 = .ok (.iload_n 3, 1) := by decide +kernel
theorem dX0_begin_12 : decode cX0_begin 12 = .ok (.putfield 18, 3) := by decide +kernel
theorem dX0_begin_15 : decode cX0_begin 15 = .ok (.aload_n 0, 1) := by decide +kernel
theorem dX0_begin_16 : decode cX0_begin 16 = .ok (.iload 4, 2) := by decide +kernel
theorem dX0_begin_18 : decode cX0_begin 18 = .ok (.putfield 21, 3) := by decide +kernel
theorem dX0_begin_21 : decode cX0_begin 21 = .ok (.aload_n 0, 1) := by decide +kernel
theorem dX0_begin_22 : decode cX0_begin 22 = .ok (.aload_n 0, 1) := by decide +kernel
theorem dX0_begin_23 : decode cX0_begin 23 = .ok (.invokevirtual 24, 3) := by decide +kernel
theorem dX0_begin_26 : decode cX0_begin 26 = .ok (.putfield 28, 3) := by decide +kernel
theorem dX0_begin_29 : decode cX0_begin 29 = .ok (.aload_n 0, 1) := by decide +kernel
theorem dX0_begin_30 : decode cX0_begin 30 = .ok (.iconst 0, 1) := by decide +kernel
theorem dX0_begin_31 : decode cX0_begin 31 = .ok (.putfield 31, 3) := by decide +kernel
theorem dX0_begin_34 : decode cX0_begin 34 = .ok (.return_, 1) := by decide +kernel
theorem dX0_copy_0 : decode cX0_copy 0 = .ok (.aload_n 0, 1) := by decide +kernel
theorem dX0_copy_1 : decode cX0_copy 1 = .ok (.aload_n 1, 1) := by decide +kernel
theorem dX0_copy_2 : decode cX0_copy 2 = .ok (.getfield 9, 3) := by decide +kernel
theorem dX0_copy_5 : decode cX0_copy 5 = .ok (.putfield 9, 3) := by decide +kernel
theorem dX0_copy_8 : decode cX0_copy 8 = .ok (.aload_n 0, 1) := by decide +kernel
theorem dX0_copy_9 : decode cX0_copy 9 = .ok (.aload_n 1, 1) := by decide +kernel
theorem dX0_copy_10 : decode cX0_copy 10 = .ok (.getfield 15, 3) := by decide +kernel
theorem dX0_copy_13 : decode cX0_copy 13 = .ok (.putfield 15, 3) := by decide +kernel
theorem dX0_copy_16 : decode cX0_copy 16 = .ok (.aload_n 0, 1) := by decide +kernel
theorem dX0_copy_17 : decode cX0_copy 17 = .ok (.aload_n 1, 1) := by decide +kernel
theorem dX0_copy_18 : decode cX0_copy 18 = .ok (.getfield 18, 3) := by decide +kernel
theorem dX0_copy_21 : decode cX0_copy 21 = .ok (.putfield 18, 3) := by decide +kernel
theorem dX0_copy_24 : decode cX0_copy 24 = .ok (.aload_n 0, 1) := by decide +kernel
theorem dX0_copy_25 : decode cX0_copy 25 = .ok (.aload_n 1, 1) := by decide +kernel
theorem dX0_copy_26 : decode cX0_copy 26 = .ok (.getfield 21, 3) := by decide +kernel
theorem dX0_copy_29 : decode cX0_copy 29 = .ok (.putfield 21, 3) := by decide +kernel
theorem dX0_copy_32 : decode cX0_copy 32 = .ok (.aload_n 0, 1) := by decide +kernel
theorem dX0_copy_33 : decode cX0_copy 33 = .ok (.aload_n 1, 1) := by decide +kernel
theorem dX0_copy_34 : decode cX0_copy 34 = .ok (.getfield 28, 3) := by decide +kernel
theorem dX0_copy_37 : decode cX0_copy 37 = .ok (.putfield 28, 3) := by decide +kernel
theorem dX0_copy_40 : decode cX0_copy 40 = .ok (.aload_n 0, 1) := by decide +kernel
theorem dX0_copy_41 : decode cX0_copy 41 = .ok (.aload_n 1, 1) := by decide +kernel
theorem dX0_copy_42 : decode cX0_copy 42 = .ok (.getfield 31, 3) := by decide +kernel
theorem dX0_copy_45 : decode cX0_copy 45 = .ok (.putfield 31, 3) := by decide +kernel
theorem dX0_copy_48 : decode cX0_copy 48 = .ok (.return_, 1) := by decide +kernel
theorem dX0_isA_0 : decode cX0_isA 0 = .ok (.iload_n 1, 1) := by decide +kernel
theorem dX0_isA_1 : decode cX0_isA 1 = .ok (.ifCond .eq 24, 3) := by decide +kernel
theorem dX0_isA_4 : decode cX0_isA 4 = .ok (.iload_n 1, 1) := by decide +kernel
theorem dX0_isA_5 : decode cX0_isA 5 = .ok (.aload_n 0, 1) := by decide +kernel
theorem dX0_isA_6 : decode cX0_isA 6 = .ok (.getfield 9, 3) := by decide +kernel
theorem dX0_isA_9 : decode cX0_isA 9 = .ok (.if_icmp .eq 16, 3) := by decide +kernel
theorem dX0_isA_12 : decode cX0_isA 12 = .ok (.iload_n 1, 1) := by decide +kernel
theorem dX0_isA_13 : decode cX0_isA 13 = .ok (.iconst 1, 1) := by decide +kernel
theorem dX0_isA_14 : decode cX0_isA 14 = .ok (.if_icmp .ne 15, 3) := by decide +kernel
theorem dX0_isA_17 : decode cX0_isA 17 = .ok (.aload_n 0, 1) := by decide +kernel
theorem dX0_isA_18 : decode cX0_isA 18 = .ok (.getfield 9, 3) := by decide +kernel
theorem dX0_isA_21 : decode cX0_isA 21 = .ok (.iconst 4, 1) := by decide +kernel
theorem dX0_isA_22 : decode cX0_isA 22 = .ok (.if_icmp .ne 7, 3) := by decide +kernel
theorem dX0_isA_25 : decode cX0_isA 25 = .ok (.iconst 1, 1) := by decide +kernel
theorem dX0_isA_26 : decode cX0_isA 26 = .ok (.goto 4, 3) := by decide +kernel
theorem dX0_isA_29 : decode cX0_isA 29 = .ok (.iconst 0, 1) := by decide +kernel
theorem dX0_isA_30 : decode cX0_isA 30 = .ok (.ireturn, 1) := by decide +kernel
theorem dX0_mayEachDay_0 : decode cX0_mayEachDay 0 = .ok (.aload_n 0, 1) := by decide +kernel
theorem dX0_mayEachDay_1 : decode cX0_mayEachDay 1 = .ok (.getfield 9, 3) := by decide +kernel
theorem dX0_mayEachDay_4 : decode cX0_mayEachDay 4 = .ok (.iconst 4, 1) := by decide +kernel
theorem dX0_mayEachDay_5 : decode cX0_mayEachDay 5 = .ok (.if_icmp .ne 5, 3) := by decide +kernel
theorem dX0_mayEachDay_8 : decode cX0_mayEachDay 8 = .ok (.iconst 3, 1) := by decide +kernel
theorem dX0_mayEachDay_9 : decode cX0_mayEachDay 9 = .ok (.ireturn, 1) := by decide +kernel
theorem dX0_mayEachDay_10 : decode cX0_mayEachDay 10 = .ok (.aload_n 0, 1) := by decide +kernel
theorem dX0_mayEachDay_11 : decode cX0_mayEachDay 11 = .ok (.getfield 9, 3) := by decide +kernel
theorem dX0_mayEachDay_14 : decode cX0_mayEachDay 14 = .ok (.iconst 1, 1) := by decide +kernel
theorem dX0_mayEachDay_15 : decode cX0_mayEachDay 15 = .ok (.if_icmp .ne 7, 3) := by decide +kernel
theorem dX0_mayEachDay_18 : decode cX0_mayEachDay 18 = .ok (.iconst 2, 1) := by decide +kernel
theorem dX0_mayEachDay_19 : decode cX0_mayEachDay 19 = .ok (.goto 4, 3) := by decide +kernel
theorem dX0_mayEachDay_22 : decode cX0_mayEachDay 22 = .ok (.iconst 1, 1) := by decide +kernel
theorem dX0_mayEachDay_23 : decode cX0_mayEachDay 23 = .ok (.ireturn, 1) := by decide +kernel
theorem dX0_hasPaid_0 : decode cX0_hasPaid 0 = .ok (.aload_n 0, 1) := by decide +kernel
theorem dX0_hasPaid_1 : decode cX0_hasPaid 1 = .ok (.getfield 18, 3) := by decide +kernel
theorem dX0_hasPaid_4 : decode cX0_hasPaid 4 = .ok (.ifCond .ne 7, 3) := by decide +kernel
theorem dX0_hasPaid_7 : decode cX0_hasPaid 7 = .ok (.iconst 1, 1) := by decide +kernel
theorem dX0_hasPaid_8 : decode cX0_hasPaid 8 = .ok (.goto 4, 3) := by decide +kernel
theorem dX0_hasPaid_11 : decode cX0_hasPaid 11 = .ok (.iconst 0, 1) := by decide +kernel
theorem dX0_hasPaid_12 : decode cX0_hasPaid 12 = .ok (.ireturn, 1) := by decide +kernel
theorem dX0_knowsOf_0 : decode cX0_knowsOf 0 = .ok (.aload_n 0, 1) := by decide +kernel
theorem dX0_knowsOf_1 : decode cX0_knowsOf 1 = .ok (.getfield 21, 3) := by decide +kernel
theorem dX0_knowsOf_4 : decode cX0_knowsOf 4 = .ok (.iconst 1, 1) := by decide +kernel
theorem dX0_knowsOf_5 : decode cX0_knowsOf 5 = .ok (.iload_n 1, 1) := by decide +kernel
theorem dX0_knowsOf_6 : decode cX0_knowsOf 6 = .ok (.ishl, 1) := by decide +kernel
theorem dX0_knowsOf_7 : decode cX0_knowsOf 7 = .ok (.iand, 1) := by decide +kernel
theorem dX0_knowsOf_8 : decode cX0_knowsOf 8 = .ok (.ifCond .eq 7, 3) := by decide +kernel
theorem dX0_knowsOf_11 : decode cX0_knowsOf 11 = .ok (.iconst 1, 1) := by decide +kernel
theorem dX0_knowsOf_12 : decode cX0_knowsOf 12 = .ok (.goto 4, 3) := by decide +kernel
theorem dX0_knowsOf_15 : decode cX0_knowsOf 15 = .ok (.iconst 0, 1) := by decide +kernel
theorem dX0_knowsOf_16 : decode cX0_knowsOf 16 = .ok (.ireturn, 1) := by decide +kernel
theorem dX0_needs_0 : decode cX0_needs 0 = .ok (.aload_n 0, 1) := by decide +kernel
theorem dX0_needs_1 : decode cX0_needs 1 = .ok (.getfield 9, 3) := by decide +kernel
theorem dX0_needs_4 : decode cX0_needs 4 = .ok (.iconst 3, 1) := by decide +kernel
theorem dX0_needs_5 : decode cX0_needs 5 = .ok (.if_icmp .ne 10, 3) := by decide +kernel
theorem dX0_needs_8 : decode cX0_needs 8 = .ok (.aload_n 0, 1) := by decide +kernel
theorem dX0_needs_9 : decode cX0_needs 9 = .ok (.invokevirtual 34, 3) := by decide +kernel
theorem dX0_needs_12 : decode cX0_needs 12 = .ok (.ifCond .eq 8, 3) := by decide +kernel
theorem dX0_needs_15 : decode cX0_needs 15 = .ok (.aload_n 0, 1) := by decide +kernel
theorem dX0_needs_16 : decode cX0_needs 16 = .ok (.getfield 18, 3) := by decide +kernel
theorem dX0_needs_19 : decode cX0_needs 19 = .ok (.ireturn, 1) := by decide +kernel
theorem dX0_needs_20 : decode cX0_needs 20 = .ok (.iconst 2, 1) := by decide +kernel
theorem dX0_needs_21 : decode cX0_needs 21 = .ok (.aload_n 0, 1) := by decide +kernel
theorem dX0_needs_22 : decode cX0_needs 22 = .ok (.getfield 18, 3) := by decide +kernel
theorem dX0_needs_25 : decode cX0_needs 25 = .ok (.imul, 1) := by decide +kernel
theorem dX0_needs_26 : decode cX0_needs 26 = .ok (.aload_n 0, 1) := by decide +kernel
theorem dX0_needs_27 : decode cX0_needs 27 = .ok (.getfield 31, 3) := by decide +kernel
theorem dX0_needs_30 : decode cX0_needs 30 = .ok (.iconst 2, 1) := by decide +kernel
theorem dX0_needs_31 : decode cX0_needs 31 = .ok (.irem, 1) := by decide +kernel
theorem dX0_needs_32 : decode cX0_needs 32 = .ok (.isub, 1) := by decide +kernel
theorem dX0_needs_33 : decode cX0_needs 33 = .ok (.ireturn, 1) := by decide +kernel
theorem dX0_pay_0 : decode cX0_pay 0 = .ok (.aload_n 0, 1) := by decide +kernel
theorem dX0_pay_1 : decode cX0_pay 1 = .ok (.dup, 1) := by decide +kernel
theorem dX0_pay_2 : decode cX0_pay 2 = .ok (.getfield 31, 3) := by decide +kernel
theorem dX0_pay_5 : decode cX0_pay 5 = .ok (.iconst 1, 1) := by decide +kernel
theorem dX0_pay_6 : decode cX0_pay 6 = .ok (.iadd, 1) := by decide +kernel
theorem dX0_pay_7 : decode cX0_pay 7 = .ok (.putfield 31, 3) := by decide +kernel
theorem dX0_pay_10 : decode cX0_pay 10 = .ok (.aload_n 0, 1) := by decide +kernel
theorem dX0_pay_11 : decode cX0_pay 11 = .ok (.getfield 9, 3) := by decide +kernel
theorem dX0_pay_14 : decode cX0_pay 14 = .ok (.iconst 3, 1) := by decide +kernel
theorem dX0_pay_15 : decode cX0_pay 15 = .ok (.if_icmp .ne 12, 3) := by decide +kernel
theorem dX0_pay_18 : decode cX0_pay 18 = .ok (.aload_n 0, 1) := by decide +kernel
theorem dX0_pay_19 : decode cX0_pay 19 = .ok (.getfield 31, 3) := by decide +kernel
theorem dX0_pay_22 : decode cX0_pay 22 = .ok (.iconst 2, 1) := by decide +kernel
theorem dX0_pay_23 : decode cX0_pay 23 = .ok (.irem, 1) := by decide +kernel
theorem dX0_pay_24 : decode cX0_pay 24 = .ok (.ifCond .ne 13, 3) := by decide +kernel
theorem dX0_pay_27 : decode cX0_pay 27 = .ok (.aload_n 0, 1) := by decide +kernel
theorem dX0_pay_28 : decode cX0_pay 28 = .ok (.dup, 1) := by decide +kernel
theorem dX0_pay_29 : decode cX0_pay 29 = .ok (.getfield 18, 3) := by decide +kernel
theorem dX0_pay_32 : decode cX0_pay 32 = .ok (.iconst 1, 1) := by decide +kernel
theorem dX0_pay_33 : decode cX0_pay 33 = .ok (.isub, 1) := by decide +kernel
theorem dX0_pay_34 : decode cX0_pay 34 = .ok (.putfield 18, 3) := by decide +kernel
theorem dX0_pay_37 : decode cX0_pay 37 = .ok (.return_, 1) := by decide +kernel
theorem dX1_init_0 : decode cX1_init 0 = .ok (.aload_n 0, 1) := by decide +kernel
theorem dX1_init_1 : decode cX1_init 1 = .ok (.invokespecial 3, 3) := by decide +kernel
theorem dX1_init_4 : decode cX1_init 4 = .ok (.aload_n 0, 1) := by decide +kernel
theorem dX1_init_5 : decode cX1_init 5 = .ok (.iconst 4, 1) := by decide +kernel
theorem dX1_init_6 : decode cX1_init 6 = .ok (.newarray .int, 2) := by decide +kernel
theorem dX1_init_8 : decode cX1_init 8 = .ok (.putfield 9, 3) := by decide +kernel
theorem dX1_init_11 : decode cX1_init 11 = .ok (.aload_n 0, 1) := by decide +kernel
theorem dX1_init_12 : decode cX1_init 12 = .ok (.iconst 4, 1) := by decide +kernel
theorem dX1_init_13 : decode cX1_init 13 = .ok (.newarray .int, 2) := by decide +kernel
theorem dX1_init_15 : decode cX1_init 15 = .ok (.putfield 15, 3) := by decide +kernel
theorem dX1_init_18 : decode cX1_init 18 = .ok (.return_, 1) := by decide +kernel
theorem dX1_mostOfAll_0 : decode cX1_mostOfAll 0 = .ok (.iconst 0, 1) := by decide +kernel
theorem dX1_mostOfAll_1 : decode cX1_mostOfAll 1 = .ok (.istore_n 2, 1) := by decide +kernel
theorem dX1_mostOfAll_2 : decode cX1_mostOfAll 2 = .ok (.iconst 0, 1) := by decide +kernel
theorem dX1_mostOfAll_3 : decode cX1_mostOfAll 3 = .ok (.istore_n 3, 1) := by decide +kernel
theorem dX1_mostOfAll_4 : decode cX1_mostOfAll 4 = .ok (.iload_n 3, 1) := by decide +kernel
theorem dX1_mostOfAll_5 : decode cX1_mostOfAll 5 = .ok (.iconst 3, 1) := by decide +kernel
theorem dX1_mostOfAll_6 : decode cX1_mostOfAll 6 = .ok (.if_icmp .ge 24, 3) := by decide +kernel
theorem dX1_mostOfAll_9 : decode cX1_mostOfAll 9 = .ok (.aload_n 0, 1) := by decide +kernel
theorem dX1_mostOfAll_10 : decode cX1_mostOfAll 10 = .ok (.aload_n 1, 1) := by decide +kernel
theorem dX1_mostOfAll_11 : decode cX1_mostOfAll 11 = .ok (.iload_n 3, 1) := by decide +kernel
theorem dX1_mostOfAll_12 : decode cX1_mostOfAll 12 = .ok (.invokevirtual 18, 3) := by decide +kernel
theorem dX1_mostOfAll_15 : decode cX1_mostOfAll 15 = .ok (.iload_n 2, 1) := by decide +kernel
theorem dX1_mostOfAll_16 : decode cX1_mostOfAll 16 = .ok (.aload_n 0, 1) := by decide +kernel
theorem dX1_mostOfAll_17 : decode cX1_mostOfAll 17 = .ok (.bipush 63, 2) := by decide +kernel
theorem dX1_mostOfAll_19 : decode cX1_mostOfAll 19 = .ok (.invokevirtual 22, 3) := by decide +kernel
theorem dX1_mostOfAll_22 : decode cX1_mostOfAll 22 = .ok (.iadd, 1) := by decide +kernel
theorem dX1_mostOfAll_23 : decode cX1_mostOfAll 23 = .ok (.istore_n 2, 1) := by decide +kernel
theorem dX1_mostOfAll_24 : decode cX1_mostOfAll 24 = .ok (.iinc 3 1, 3) := by decide +kernel
theorem dX1_mostOfAll_27 : decode cX1_mostOfAll 27 = .ok (.goto (-23), 3) := by decide +kernel
theorem dX1_mostOfAll_30 : decode cX1_mostOfAll 30 = .ok (.iload_n 2, 1) := by decide +kernel
theorem dX1_mostOfAll_31 : decode cX1_mostOfAll 31 = .ok (.ireturn, 1) := by decide +kernel
theorem dX1_sayerOf_0 : decode cX1_sayerOf 0 = .ok (.aload_n 0, 1) := by decide +kernel
theorem dX1_sayerOf_1 : decode cX1_sayerOf 1 = .ok (.aload_n 1, 1) := by decide +kernel
theorem dX1_sayerOf_2 : decode cX1_sayerOf 2 = .ok (.iload_n 2, 1) := by decide +kernel
theorem dX1_sayerOf_3 : decode cX1_sayerOf 3 = .ok (.invokevirtual 18, 3) := by decide +kernel
theorem dX1_sayerOf_6 : decode cX1_sayerOf 6 = .ok (.bipush 63, 2) := by decide +kernel
theorem dX1_sayerOf_8 : decode cX1_sayerOf 8 = .ok (.istore 4, 2) := by decide +kernel
theorem dX1_sayerOf_10 : decode cX1_sayerOf 10 = .ok (.iconst (-1), 1) := by decide +kernel
theorem dX1_sayerOf_11 : decode cX1_sayerOf 11 = .ok (.istore 5, 2) := by decide +kernel
theorem dX1_sayerOf_13 : decode cX1_sayerOf 13 = .ok (.iconst 0, 1) := by decide +kernel
theorem dX1_sayerOf_14 : decode cX1_sayerOf 14 = .ok (.istore 6, 2) := by decide +kernel
theorem dX1_sayerOf_16 : decode cX1_sayerOf 16 = .ok (.iload 6, 2) := by decide +kernel
theorem dX1_sayerOf_18 : decode cX1_sayerOf 18 = .ok (.iload_n 3, 1) := by decide +kernel
theorem dX1_sayerOf_19 : decode cX1_sayerOf 19 = .ok (.if_icmp .gt 57, 3) := by decide +kernel
theorem dX1_sayerOf_22 : decode cX1_sayerOf 22 = .ok (.aload_n 0, 1) := by decide +kernel
theorem dX1_sayerOf_23 : decode cX1_sayerOf 23 = .ok (.iload 4, 2) := by decide +kernel
theorem dX1_sayerOf_25 : decode cX1_sayerOf 25 = .ok (.invokevirtual 22, 3) := by decide +kernel
theorem dX1_sayerOf_28 : decode cX1_sayerOf 28 = .ok (.istore 7, 2) := by decide +kernel
theorem dX1_sayerOf_30 : decode cX1_sayerOf 30 = .ok (.iload 4, 2) := by decide +kernel
theorem dX1_sayerOf_32 : decode cX1_sayerOf 32 = .ok (.iconst 1, 1) := by decide +kernel
theorem dX1_sayerOf_33 : decode cX1_sayerOf 33 = .ok (.iload 6, 2) := by decide +kernel
theorem dX1_sayerOf_35 : decode cX1_sayerOf 35 = .ok (.ishl, 1) := by decide +kernel
theorem dX1_sayerOf_36 : decode cX1_sayerOf 36 = .ok (.iconst (-1), 1) := by decide +kernel
theorem dX1_sayerOf_37 : decode cX1_sayerOf 37 = .ok (.ixor, 1) := by decide +kernel
theorem dX1_sayerOf_38 : decode cX1_sayerOf 38 = .ok (.iand, 1) := by decide +kernel
theorem dX1_sayerOf_39 : decode cX1_sayerOf 39 = .ok (.istore 4, 2) := by decide +kernel
theorem dX1_sayerOf_41 : decode cX1_sayerOf 41 = .ok (.aload_n 0, 1) := by decide +kernel
theorem dX1_sayerOf_42 : decode cX1_sayerOf 42 = .ok (.iload 6, 2) := by decide +kernel
theorem dX1_sayerOf_44 : decode cX1_sayerOf 44 = .ok (.iload 4, 2) := by decide +kernel
theorem dX1_sayerOf_46 : decode cX1_sayerOf 46 = .ok (.iload 7, 2) := by decide +kernel
theorem dX1_sayerOf_48 : decode cX1_sayerOf 48 = .ok (.invokevirtual 26, 3) := by decide +kernel
theorem dX1_sayerOf_51 : decode cX1_sayerOf 51 = .ok (.istore 5, 2) := by decide +kernel
theorem dX1_sayerOf_53 : decode cX1_sayerOf 53 = .ok (.iload 5, 2) := by decide +kernel
theorem dX1_sayerOf_55 : decode cX1_sayerOf 55 = .ok (.iconst (-1), 1) := by decide +kernel
theorem dX1_sayerOf_56 : decode cX1_sayerOf 56 = .ok (.if_icmp .eq 14, 3) := by decide +kernel
theorem dX1_sayerOf_59 : decode cX1_sayerOf 59 = .ok (.aload_n 0, 1) := by decide +kernel
theorem dX1_sayerOf_60 : decode cX1_sayerOf 60 = .ok (.getfield 9, 3) := by decide +kernel
theorem dX1_sayerOf_63 : decode cX1_sayerOf 63 = .ok (.iload 5, 2) := by decide +kernel
theorem dX1_sayerOf_65 : decode cX1_sayerOf 65 = .ok (.dup2, 1) := by decide +kernel
theorem dX1_sayerOf_66 : decode cX1_sayerOf 66 = .ok (.iaload, 1) := by decide +kernel
theorem dX1_sayerOf_67 : decode cX1_sayerOf 67 = .ok (.iconst 1, 1) := by decide +kernel
theorem dX1_sayerOf_68 : decode cX1_sayerOf 68 = .ok (.isub, 1) := by decide +kernel
theorem dX1_sayerOf_69 : decode cX1_sayerOf 69 = .ok (.iastore, 1) := by decide +kernel
theorem dX1_sayerOf_70 : decode cX1_sayerOf 70 = .ok (.iinc 6 1, 3) := by decide +kernel
theorem dX1_sayerOf_73 : decode cX1_sayerOf 73 = .ok (.goto (-57), 3) := by decide +kernel
theorem dX1_sayerOf_76 : decode cX1_sayerOf 76 = .ok (.iload 5, 2) := by decide +kernel
theorem dX1_sayerOf_78 : decode cX1_sayerOf 78 = .ok (.ireturn, 1) := by decide +kernel
theorem dX1_take_0 : decode cX1_take 0 = .ok (.aload_n 0, 1) := by decide +kernel
theorem dX1_take_1 : decode cX1_take 1 = .ok (.aload_n 1, 1) := by decide +kernel
theorem dX1_take_2 : decode cX1_take 2 = .ok (.getfield 30, 3) := by decide +kernel
theorem dX1_take_5 : decode cX1_take 5 = .ok (.putfield 36, 3) := by decide +kernel
theorem dX1_take_8 : decode cX1_take 8 = .ok (.iconst 0, 1) := by decide +kernel
theorem dX1_take_9 : decode cX1_take 9 = .ok (.istore_n 3, 1) := by decide +kernel
theorem dX1_take_10 : decode cX1_take 10 = .ok (.iload_n 3, 1) := by decide +kernel
theorem dX1_take_11 : decode cX1_take 11 = .ok (.aload_n 0, 1) := by decide +kernel
theorem dX1_take_12 : decode cX1_take 12 = .ok (.getfield 36, 3) := by decide +kernel
theorem dX1_take_15 : decode cX1_take 15 = .ok (.if_icmp .ge 53, 3) := by decide +kernel
theorem dX1_take_18 : decode cX1_take 18 = .ok (.aload_n 1, 1) := by decide +kernel
theorem dX1_take_19 : decode cX1_take 19 = .ok (.getfield 37, 3) := by decide +kernel
theorem dX1_take_22 : decode cX1_take 22 = .ok (.iload_n 3, 1) := by decide +kernel
theorem dX1_take_23 : decode cX1_take 23 = .ok (.aaload, 1) := by decide +kernel
theorem dX1_take_24 : decode cX1_take 24 = .ok (.astore 4, 2) := by decide +kernel
theorem dX1_take_26 : decode cX1_take 26 = .ok (.aload_n 0, 1) := by decide +kernel
theorem dX1_take_27 : decode cX1_take 27 = .ok (.getfield 9, 3) := by decide +kernel
theorem dX1_take_30 : decode cX1_take 30 = .ok (.iload_n 3, 1) := by decide +kernel
theorem dX1_take_31 : decode cX1_take 31 = .ok (.aload 4, 2) := by decide +kernel
theorem dX1_take_33 : decode cX1_take 33 = .ok (.invokevirtual 41, 3) := by decide +kernel
theorem dX1_take_36 : decode cX1_take 36 = .ok (.iastore, 1) := by decide +kernel
theorem dX1_take_37 : decode cX1_take 37 = .ok (.aload_n 0, 1) := by decide +kernel
theorem dX1_take_38 : decode cX1_take 38 = .ok (.getfield 15, 3) := by decide +kernel
theorem dX1_take_41 : decode cX1_take 41 = .ok (.iload_n 3, 1) := by decide +kernel
theorem dX1_take_42 : decode cX1_take 42 = .ok (.aload 4, 2) := by decide +kernel
theorem dX1_take_44 : decode cX1_take 44 = .ok (.getfield 46, 3) := by decide +kernel
theorem dX1_take_47 : decode cX1_take 47 = .ok (.iload_n 2, 1) := by decide +kernel
theorem dX1_take_48 : decode cX1_take 48 = .ok (.if_icmp .ne 12, 3) := by decide +kernel
theorem dX1_take_51 : decode cX1_take 51 = .ok (.aload_n 1, 1) := by decide +kernel
theorem dX1_take_52 : decode cX1_take 52 = .ok (.aload 4, 2) := by decide +kernel
theorem dX1_take_54 : decode cX1_take 54 = .ok (.invokevirtual 49, 3) := by decide +kernel
theorem dX1_take_57 : decode cX1_take 57 = .ok (.goto 4, 3) := by decide +kernel
theorem dX1_take_60 : decode cX1_take 60 = .ok (.iconst 0, 1) := by decide +kernel
theorem dX1_take_61 : decode cX1_take 61 = .ok (.iastore, 1) := by decide +kernel
theorem dX1_take_62 : decode cX1_take 62 = .ok (.iinc 3 1, 3) := by decide +kernel
theorem dX1_take_65 : decode cX1_take 65 = .ok (.goto (-55), 3) := by decide +kernel
theorem dX1_take_68 : decode cX1_take 68 = .ok (.return_, 1) := by decide +kernel
theorem dX1_firstSayer_0 : decode cX1_firstSayer 0 = .ok (.aload_n 0, 1) := by decide +kernel
theorem dX1_firstSayer_1 : decode cX1_firstSayer 1 = .ok (.iload_n 2, 1) := by decide +kernel
theorem dX1_firstSayer_2 : decode cX1_firstSayer 2 = .ok (.invokevirtual 22, 3) := by decide +kernel
theorem dX1_firstSayer_5 : decode cX1_firstSayer 5 = .ok (.iload_n 3, 1) := by decide +kernel
theorem dX1_firstSayer_6 : decode cX1_firstSayer 6 = .ok (.if_icmp .ne 5, 3) := by decide +kernel
theorem dX1_firstSayer_9 : decode cX1_firstSayer 9 = .ok (.iconst (-1), 1) := by decide +kernel
theorem dX1_firstSayer_10 : decode cX1_firstSayer 10 = .ok (.ireturn, 1) := by decide +kernel
theorem dX1_firstSayer_11 : decode cX1_firstSayer 11 = .ok (.iconst 0, 1) := by decide +kernel
theorem dX1_firstSayer_12 : decode cX1_firstSayer 12 = .ok (.istore 4, 2) := by decide +kernel
theorem dX1_firstSayer_14 : decode cX1_firstSayer 14 = .ok (.iload 4, 2) := by decide +kernel
theorem dX1_firstSayer_16 : decode cX1_firstSayer 16 = .ok (.aload_n 0, 1) := by decide +kernel
theorem dX1_firstSayer_17 : decode cX1_firstSayer 17 = .ok (.getfield 36, 3) := by decide +kernel
theorem dX1_firstSayer_20 : decode cX1_firstSayer 20 = .ok (.if_icmp .ge 73, 3) := by decide +kernel
theorem dX1_firstSayer_23 : decode cX1_firstSayer 23 = .ok (.aload_n 0, 1) := by decide +kernel
theorem dX1_firstSayer_24 : decode cX1_firstSayer 24 = .ok (.getfield 9, 3) := by decide +kernel
theorem dX1_firstSayer_27 : decode cX1_firstSayer 27 = .ok (.iload 4, 2) := by decide +kernel
theorem dX1_firstSayer_29 : decode cX1_firstSayer 29 = .ok (.iaload, 1) := by decide +kernel
theorem dX1_firstSayer_30 : decode cX1_firstSayer 30 = .ok (.ifCond .le 57, 3) := by decide +kernel
theorem dX1_firstSayer_33 : decode cX1_firstSayer 33 = .ok (.aload_n 0, 1) := by decide +kernel
theorem dX1_firstSayer_34 : decode cX1_firstSayer 34 = .ok (.getfield 15, 3) := by decide +kernel
theorem dX1_firstSayer_37 : decode cX1_firstSayer 37 = .ok (.iload 4, 2) := by decide +kernel
theorem dX1_firstSayer_39 : decode cX1_firstSayer 39 = .ok (.iaload, 1) := by decide +kernel
theorem dX1_firstSayer_40 : decode cX1_firstSayer 40 = .ok (.iconst 1, 1) := by decide +kernel
theorem dX1_firstSayer_41 : decode cX1_firstSayer 41 = .ok (.iload_n 1, 1) := by decide +kernel
theorem dX1_firstSayer_42 : decode cX1_firstSayer 42 = .ok (.ishl, 1) := by decide +kernel
theorem dX1_firstSayer_43 : decode cX1_firstSayer 43 = .ok (.iand, 1) := by decide +kernel
theorem dX1_firstSayer_44 : decode cX1_firstSayer 44 = .ok (.ifCond .eq 43, 3) := by decide +kernel
theorem dX1_firstSayer_47 : decode cX1_firstSayer 47 = .ok (.aload_n 0, 1) := by decide +kernel
theorem dX1_firstSayer_48 : decode cX1_firstSayer 48 = .ok (.getfield 9, 3) := by decide +kernel
theorem dX1_firstSayer_51 : decode cX1_firstSayer 51 = .ok (.iload 4, 2) := by decide +kernel
theorem dX1_firstSayer_53 : decode cX1_firstSayer 53 = .ok (.dup2, 1) := by decide +kernel
theorem dX1_firstSayer_54 : decode cX1_firstSayer 54 = .ok (.iaload, 1) := by decide +kernel
theorem dX1_firstSayer_55 : decode cX1_firstSayer 55 = .ok (.iconst 1, 1) := by decide +kernel
theorem dX1_firstSayer_56 : decode cX1_firstSayer 56 = .ok (.isub, 1) := by decide +kernel
theorem dX1_firstSayer_57 : decode cX1_firstSayer 57 = .ok (.iastore, 1) := by decide +kernel
theorem dX1_firstSayer_58 : decode cX1_firstSayer 58 = .ok (.aload_n 0, 1) := by decide +kernel
theorem dX1_firstSayer_59 : decode cX1_firstSayer 59 = .ok (.iload_n 2, 1) := by decide +kernel
theorem dX1_firstSayer_60 : decode cX1_firstSayer 60 = .ok (.invokevirtual 22, 3) := by decide +kernel
theorem dX1_firstSayer_63 : decode cX1_firstSayer 63 = .ok (.istore 5, 2) := by decide +kernel
theorem dX1_firstSayer_65 : decode cX1_firstSayer 65 = .ok (.aload_n 0, 1) := by decide +kernel
theorem dX1_firstSayer_66 : decode cX1_firstSayer 66 = .ok (.getfield 9, 3) := by decide +kernel
theorem dX1_firstSayer_69 : decode cX1_firstSayer 69 = .ok (.iload 4, 2) := by decide +kernel
theorem dX1_firstSayer_71 : decode cX1_firstSayer 71 = .ok (.dup2, 1) := by decide +kernel
theorem dX1_firstSayer_72 : decode cX1_firstSayer 72 = .ok (.iaload, 1) := by decide +kernel
theorem dX1_firstSayer_73 : decode cX1_firstSayer 73 = .ok (.iconst 1, 1) := by decide +kernel
theorem dX1_firstSayer_74 : decode cX1_firstSayer 74 = .ok (.iadd, 1) := by decide +kernel
theorem dX1_firstSayer_75 : decode cX1_firstSayer 75 = .ok (.iastore, 1) := by decide +kernel
theorem dX1_firstSayer_76 : decode cX1_firstSayer 76 = .ok (.iload 5, 2) := by decide +kernel
theorem dX1_firstSayer_78 : decode cX1_firstSayer 78 = .ok (.iconst 1, 1) := by decide +kernel
theorem dX1_firstSayer_79 : decode cX1_firstSayer 79 = .ok (.iadd, 1) := by decide +kernel
theorem dX1_firstSayer_80 : decode cX1_firstSayer 80 = .ok (.iload_n 3, 1) := by decide +kernel
theorem dX1_firstSayer_81 : decode cX1_firstSayer 81 = .ok (.if_icmp .ne 6, 3) := by decide +kernel
theorem dX1_firstSayer_84 : decode cX1_firstSayer 84 = .ok (.iload 4, 2) := by decide +kernel
theorem dX1_firstSayer_86 : decode cX1_firstSayer 86 = .ok (.ireturn, 1) := by decide +kernel
theorem dX1_firstSayer_87 : decode cX1_firstSayer 87 = .ok (.iinc 4 1, 3) := by decide +kernel
theorem dX1_firstSayer_90 : decode cX1_firstSayer 90 = .ok (.goto (-76), 3) := by decide +kernel
theorem dX1_firstSayer_93 : decode cX1_firstSayer 93 = .ok (.iconst (-1), 1) := by decide +kernel
theorem dX1_firstSayer_94 : decode cX1_firstSayer 94 = .ok (.ireturn, 1) := by decide +kernel
theorem dX1_mostAmong_0 : decode cX1_mostAmong 0 = .ok (.bipush 6, 2) := by decide +kernel
theorem dX1_mostAmong_2 : decode cX1_mostAmong 2 = .ok (.istore_n 2, 1) := by decide +kernel
theorem dX1_mostAmong_3 : decode cX1_mostAmong 3 = .ok (.iconst 0, 1) := by decide +kernel
theorem dX1_mostAmong_4 : decode cX1_mostAmong 4 = .ok (.istore_n 3, 1) := by decide +kernel
theorem dX1_mostAmong_5 : decode cX1_mostAmong 5 = .ok (.iload_n 3, 1) := by decide +kernel
theorem dX1_mostAmong_6 : decode cX1_mostAmong 6 = .ok (.iconst 1, 1) := by decide +kernel
theorem dX1_mostAmong_7 : decode cX1_mostAmong 7 = .ok (.aload_n 0, 1) := by decide +kernel
theorem dX1_mostAmong_8 : decode cX1_mostAmong 8 = .ok (.getfield 36, 3) := by decide +kernel
theorem dX1_mostAmong_11 : decode cX1_mostAmong 11 = .ok (.ishl, 1) := by decide +kernel
theorem dX1_mostAmong_12 : decode cX1_mostAmong 12 = .ok (.if_icmp .ge 84, 3) := by decide +kernel
theorem dX1_mostAmong_15 : decode cX1_mostAmong 15 = .ok (.iconst 0, 1) := by decide +kernel
theorem dX1_mostAmong_16 : decode cX1_mostAmong 16 = .ok (.istore 4, 2) := by decide +kernel
theorem dX1_mostAmong_18 : decode cX1_mostAmong 18 = .ok (.iconst 0, 1) := by decide +kernel
theorem dX1_mostAmong_19 : decode cX1_mostAmong 19 = .ok (.istore 5, 2) := by decide +kernel
theorem dX1_mostAmong_21 : decode cX1_mostAmong 21 = .ok (.iconst 0, 1) := by decide +kernel
theorem dX1_mostAmong_22 : decode cX1_mostAmong 22 = .ok (.istore 6, 2) := by decide +kernel
theorem dX1_mostAmong_24 : decode cX1_mostAmong 24 = .ok (.iload 6, 2) := by decide +kernel
theorem dX1_mostAmong_26 : decode cX1_mostAmong 26 = .ok (.aload_n 0, 1) := by decide +kernel
theorem dX1_mostAmong_27 : decode cX1_mostAmong 27 = .ok (.getfield 36, 3) := by decide +kernel
theorem dX1_mostAmong_30 : decode cX1_mostAmong 30 = .ok (.if_icmp .ge 47, 3) := by decide +kernel
theorem dX1_mostAmong_33 : decode cX1_mostAmong 33 = .ok (.iload_n 3, 1) := by decide +kernel
theorem dX1_mostAmong_34 : decode cX1_mostAmong 34 = .ok (.iconst 1, 1) := by decide +kernel
theorem dX1_mostAmong_35 : decode cX1_mostAmong 35 = .ok (.iload 6, 2) := by decide +kernel
theorem dX1_mostAmong_37 : decode cX1_mostAmong 37 = .ok (.ishl, 1) := by decide +kernel
theorem dX1_mostAmong_38 : decode cX1_mostAmong 38 = .ok (.iand, 1) := by decide +kernel
theorem dX1_mostAmong_39 : decode cX1_mostAmong 39 = .ok (.ifCond .eq 18, 3) := by decide +kernel
theorem dX1_mostAmong_42 : decode cX1_mostAmong 42 = .ok (.iload 4, 2) := by decide +kernel
theorem dX1_mostAmong_44 : decode cX1_mostAmong 44 = .ok (.aload_n 0, 1) := by decide +kernel
theorem dX1_mostAmong_45 : decode cX1_mostAmong 45 = .ok (.getfield 9, 3) := by decide +kernel
theorem dX1_mostAmong_48 : decode cX1_mostAmong 48 = .ok (.iload 6, 2) := by decide +kernel
theorem dX1_mostAmong_50 : decode cX1_mostAmong 50 = .ok (.iaload, 1) := by decide +kernel
theorem dX1_mostAmong_51 : decode cX1_mostAmong 51 = .ok (.iadd, 1) := by decide +kernel
theorem dX1_mostAmong_52 : decode cX1_mostAmong 52 = .ok (.istore 4, 2) := by decide +kernel
theorem dX1_mostAmong_54 : decode cX1_mostAmong 54 = .ok (.goto 17, 3) := by decide +kernel
theorem dX1_mostAmong_57 : decode cX1_mostAmong 57 = .ok (.iload 5, 2) := by decide +kernel
theorem dX1_mostAmong_59 : decode cX1_mostAmong 59 = .ok (.aload_n 0, 1) := by decide +kernel
theorem dX1_mostAmong_60 : decode cX1_mostAmong 60 = .ok (.getfield 15, 3) := by decide +kernel
theorem dX1_mostAmong_63 : decode cX1_mostAmong 63 = .ok (.iload 6, 2) := by decide +kernel
theorem dX1_mostAmong_65 : decode cX1_mostAmong 65 = .ok (.iaload, 1) := by decide +kernel
theorem dX1_mostAmong_66 : decode cX1_mostAmong 66 = .ok (.iload_n 1, 1) := by decide +kernel
theorem dX1_mostAmong_67 : decode cX1_mostAmong 67 = .ok (.iand, 1) := by decide +kernel
theorem dX1_mostAmong_68 : decode cX1_mostAmong 68 = .ok (.ior, 1) := by decide +kernel
theorem dX1_mostAmong_69 : decode cX1_mostAmong 69 = .ok (.istore 5, 2) := by decide +kernel
theorem dX1_mostAmong_71 : decode cX1_mostAmong 71 = .ok (.iinc 6 1, 3) := by decide +kernel
theorem dX1_mostAmong_74 : decode cX1_mostAmong 74 = .ok (.goto (-50), 3) := by decide +kernel
theorem dX1_mostAmong_77 : decode cX1_mostAmong 77 = .ok (.iload_n 2, 1) := by decide +kernel
theorem dX1_mostAmong_78 : decode cX1_mostAmong 78 = .ok (.iload 4, 2) := by decide +kernel
theorem dX1_mostAmong_80 : decode cX1_mostAmong 80 = .ok (.iload 5, 2) := by decide +kernel
theorem dX1_mostAmong_82 : decode cX1_mostAmong 82 = .ok (.invokestatic 53, 3) := by decide +kernel
theorem dX1_mostAmong_85 : decode cX1_mostAmong 85 = .ok (.iadd, 1) := by decide +kernel
theorem dX1_mostAmong_86 : decode cX1_mostAmong 86 = .ok (.invokestatic 58, 3) := by decide +kernel
theorem dX1_mostAmong_89 : decode cX1_mostAmong 89 = .ok (.istore_n 2, 1) := by decide +kernel
theorem dX1_mostAmong_90 : decode cX1_mostAmong 90 = .ok (.iinc 3 1, 3) := by decide +kernel
theorem dX1_mostAmong_93 : decode cX1_mostAmong 93 = .ok (.goto (-88), 3) := by decide +kernel
theorem dX1_mostAmong_96 : decode cX1_mostAmong 96 = .ok (.iload_n 2, 1) := by decide +kernel
theorem dX1_mostAmong_97 : decode cX1_mostAmong 97 = .ok (.ireturn, 1) := by decide +kernel
theorem dX2_init_0 : decode cX2_init 0 = .ok (.aload_n 0, 1) := by decide +kernel
theorem dX2_init_1 : decode cX2_init 1 = .ok (.invokespecial 3, 3) := by decide +kernel
theorem dX2_init_4 : decode cX2_init 4 = .ok (.aload_n 0, 1) := by decide +kernel
theorem dX2_init_5 : decode cX2_init 5 = .ok (.iconst 3, 1) := by decide +kernel
theorem dX2_init_6 : decode cX2_init 6 = .ok (.anewarray 9, 3) := by decide +kernel
theorem dX2_init_9 : decode cX2_init 9 = .ok (.putfield 11, 3) := by decide +kernel
theorem dX2_init_12 : decode cX2_init 12 = .ok (.aload_n 0, 1) := by decide +kernel
theorem dX2_init_13 : decode cX2_init 13 = .ok (.iconst 4, 1) := by decide +kernel
theorem dX2_init_14 : decode cX2_init 14 = .ok (.anewarray 17, 3) := by decide +kernel
theorem dX2_init_17 : decode cX2_init 17 = .ok (.putfield 19, 3) := by decide +kernel
theorem dX2_init_20 : decode cX2_init 20 = .ok (.iconst 0, 1) := by decide +kernel
theorem dX2_init_21 : decode cX2_init 21 = .ok (.istore_n 1, 1) := by decide +kernel
theorem dX2_init_22 : decode cX2_init 22 = .ok (.iload_n 1, 1) := by decide +kernel
theorem dX2_init_23 : decode cX2_init 23 = .ok (.iconst 3, 1) := by decide +kernel
theorem dX2_init_24 : decode cX2_init 24 = .ok (.if_icmp .ge 22, 3) := by decide +kernel
theorem dX2_init_27 : decode cX2_init 27 = .ok (.aload_n 0, 1) := by decide +kernel
theorem dX2_init_28 : decode cX2_init 28 = .ok (.getfield 11, 3) := by decide +kernel
theorem dX2_init_31 : decode cX2_init 31 = .ok (.iload_n 1, 1) := by decide +kernel
theorem dX2_init_32 : decode cX2_init 32 = .ok (.new 9, 3) := by decide +kernel
theorem dX2_init_35 : decode cX2_init 35 = .ok (.dup, 1) := by decide +kernel
theorem dX2_init_36 : decode cX2_init 36 = .ok (.invokespecial 23, 3) := by decide +kernel
theorem dX2_init_39 : decode cX2_init 39 = .ok (.aastore, 1) := by decide +kernel
theorem dX2_init_40 : decode cX2_init 40 = .ok (.iinc 1 1, 3) := by decide +kernel
theorem dX2_init_43 : decode cX2_init 43 = .ok (.goto (-21), 3) := by decide +kernel
theorem dX2_init_46 : decode cX2_init 46 = .ok (.iconst 0, 1) := by decide +kernel
theorem dX2_init_47 : decode cX2_init 47 = .ok (.istore_n 1, 1) := by decide +kernel
theorem dX2_init_48 : decode cX2_init 48 = .ok (.iload_n 1, 1) := by decide +kernel
theorem dX2_init_49 : decode cX2_init 49 = .ok (.iconst 4, 1) := by decide +kernel
theorem dX2_init_50 : decode cX2_init 50 = .ok (.if_icmp .ge 22, 3) := by decide +kernel
theorem dX2_init_53 : decode cX2_init 53 = .ok (.aload_n 0, 1) := by decide +kernel
theorem dX2_init_54 : decode cX2_init 54 = .ok (.getfield 19, 3) := by decide +kernel
theorem dX2_init_57 : decode cX2_init 57 = .ok (.iload_n 1, 1) := by decide +kernel
theorem dX2_init_58 : decode cX2_init 58 = .ok (.new 17, 3) := by decide +kernel
theorem dX2_init_61 : decode cX2_init 61 = .ok (.dup, 1) := by decide +kernel
theorem dX2_init_62 : decode cX2_init 62 = .ok (.invokespecial 24, 3) := by decide +kernel
theorem dX2_init_65 : decode cX2_init 65 = .ok (.aastore, 1) := by decide +kernel
theorem dX2_init_66 : decode cX2_init 66 = .ok (.iinc 1 1, 3) := by decide +kernel
theorem dX2_init_69 : decode cX2_init 69 = .ok (.goto (-21), 3) := by decide +kernel
theorem dX2_init_72 : decode cX2_init 72 = .ok (.return_, 1) := by decide +kernel
theorem dX2_clear_0 : decode cX2_clear 0 = .ok (.iconst 0, 1) := by decide +kernel
theorem dX2_clear_1 : decode cX2_clear 1 = .ok (.istore_n 1, 1) := by decide +kernel
theorem dX2_clear_2 : decode cX2_clear 2 = .ok (.iload_n 1, 1) := by decide +kernel
theorem dX2_clear_3 : decode cX2_clear 3 = .ok (.iconst 3, 1) := by decide +kernel
theorem dX2_clear_4 : decode cX2_clear 4 = .ok (.if_icmp .ge 18, 3) := by decide +kernel
theorem dX2_clear_7 : decode cX2_clear 7 = .ok (.aload_n 0, 1) := by decide +kernel
theorem dX2_clear_8 : decode cX2_clear 8 = .ok (.getfield 11, 3) := by decide +kernel
theorem dX2_clear_11 : decode cX2_clear 11 = .ok (.iload_n 1, 1) := by decide +kernel
theorem dX2_clear_12 : decode cX2_clear 12 = .ok (.aaload, 1) := by decide +kernel
theorem dX2_clear_13 : decode cX2_clear 13 = .ok (.invokevirtual 25, 3) := by decide +kernel
theorem dX2_clear_16 : decode cX2_clear 16 = .ok (.iinc 1 1, 3) := by decide +kernel
theorem dX2_clear_19 : decode cX2_clear 19 = .ok (.goto (-17), 3) := by decide +kernel
theorem dX2_clear_22 : decode cX2_clear 22 = .ok (.aload_n 0, 1) := by decide +kernel
theorem dX2_clear_23 : decode cX2_clear 23 = .ok (.iconst 0, 1) := by decide +kernel
theorem dX2_clear_24 : decode cX2_clear 24 = .ok (.putfield 28, 3) := by decide +kernel
theorem dX2_clear_27 : decode cX2_clear 27 = .ok (.aload_n 0, 1) := by decide +kernel
theorem dX2_clear_28 : decode cX2_clear 28 = .ok (.iconst 0, 1) := by decide +kernel
theorem dX2_clear_29 : decode cX2_clear 29 = .ok (.putfield 32, 3) := by decide +kernel
theorem dX2_clear_32 : decode cX2_clear 32 = .ok (.aload_n 0, 1) := by decide +kernel
theorem dX2_clear_33 : decode cX2_clear 33 = .ok (.iconst 0, 1) := by decide +kernel
theorem dX2_clear_34 : decode cX2_clear 34 = .ok (.putfield 35, 3) := by decide +kernel
theorem dX2_clear_37 : decode cX2_clear 37 = .ok (.aload_n 0, 1) := by decide +kernel
theorem dX2_clear_38 : decode cX2_clear 38 = .ok (.iconst 0, 1) := by decide +kernel
theorem dX2_clear_39 : decode cX2_clear 39 = .ok (.putfield 38, 3) := by decide +kernel
theorem dX2_clear_42 : decode cX2_clear 42 = .ok (.return_, 1) := by decide +kernel
theorem dX2_copy_0 : decode cX2_copy 0 = .ok (.iconst 0, 1) := by decide +kernel
theorem dX2_copy_1 : decode cX2_copy 1 = .ok (.istore_n 2, 1) := by decide +kernel
theorem dX2_copy_2 : decode cX2_copy 2 = .ok (.iload_n 2, 1) := by decide +kernel
theorem dX2_copy_3 : decode cX2_copy 3 = .ok (.iconst 3, 1) := by decide +kernel
theorem dX2_copy_4 : decode cX2_copy 4 = .ok (.if_icmp .ge 24, 3) := by decide +kernel
theorem dX2_copy_7 : decode cX2_copy 7 = .ok (.aload_n 0, 1) := by decide +kernel
theorem dX2_copy_8 : decode cX2_copy 8 = .ok (.getfield 11, 3) := by decide +kernel
theorem dX2_copy_11 : decode cX2_copy 11 = .ok (.iload_n 2, 1) := by decide +kernel
theorem dX2_copy_12 : decode cX2_copy 12 = .ok (.aaload, 1) := by decide +kernel
theorem dX2_copy_13 : decode cX2_copy 13 = .ok (.aload_n 1, 1) := by decide +kernel
theorem dX2_copy_14 : decode cX2_copy 14 = .ok (.getfield 11, 3) := by decide +kernel
theorem dX2_copy_17 : decode cX2_copy 17 = .ok (.iload_n 2, 1) := by decide +kernel
theorem dX2_copy_18 : decode cX2_copy 18 = .ok (.aaload, 1) := by decide +kernel
theorem dX2_copy_19 : decode cX2_copy 19 = .ok (.invokevirtual 41, 3) := by decide +kernel
theorem dX2_copy_22 : decode cX2_copy 22 = .ok (.iinc 2 1, 3) := by decide +kernel
theorem dX2_copy_25 : decode cX2_copy 25 = .ok (.goto (-23), 3) := by decide +kernel
theorem dX2_copy_28 : decode cX2_copy 28 = .ok (.iconst 0, 1) := by decide +kernel
theorem dX2_copy_29 : decode cX2_copy 29 = .ok (.istore_n 2, 1) := by decide +kernel
theorem dX2_copy_30 : decode cX2_copy 30 = .ok (.iload_n 2, 1) := by decide +kernel
theorem dX2_copy_31 : decode cX2_copy 31 = .ok (.iconst 4, 1) := by decide +kernel
theorem dX2_copy_32 : decode cX2_copy 32 = .ok (.if_icmp .ge 24, 3) := by decide +kernel
theorem dX2_copy_35 : decode cX2_copy 35 = .ok (.aload_n 0, 1) := by decide +kernel
theorem dX2_copy_36 : decode cX2_copy 36 = .ok (.getfield 19, 3) := by decide +kernel
theorem dX2_copy_39 : decode cX2_copy 39 = .ok (.iload_n 2, 1) := by decide +kernel
theorem dX2_copy_40 : decode cX2_copy 40 = .ok (.aaload, 1) := by decide +kernel
theorem dX2_copy_41 : decode cX2_copy 41 = .ok (.aload_n 1, 1) := by decide +kernel
theorem dX2_copy_42 : decode cX2_copy 42 = .ok (.getfield 19, 3) := by decide +kernel
theorem dX2_copy_45 : decode cX2_copy 45 = .ok (.iload_n 2, 1) := by decide +kernel
theorem dX2_copy_46 : decode cX2_copy 46 = .ok (.aaload, 1) := by decide +kernel
theorem dX2_copy_47 : decode cX2_copy 47 = .ok (.invokevirtual 45, 3) := by decide +kernel
theorem dX2_copy_50 : decode cX2_copy 50 = .ok (.iinc 2 1, 3) := by decide +kernel
theorem dX2_copy_53 : decode cX2_copy 53 = .ok (.goto (-23), 3) := by decide +kernel
theorem dX2_copy_56 : decode cX2_copy 56 = .ok (.aload_n 0, 1) := by decide +kernel
theorem dX2_copy_57 : decode cX2_copy 57 = .ok (.aload_n 1, 1) := by decide +kernel
theorem dX2_copy_58 : decode cX2_copy 58 = .ok (.getfield 28, 3) := by decide +kernel
theorem dX2_copy_61 : decode cX2_copy 61 = .ok (.putfield 28, 3) := by decide +kernel
theorem dX2_copy_64 : decode cX2_copy 64 = .ok (.aload_n 0, 1) := by decide +kernel
theorem dX2_copy_65 : decode cX2_copy 65 = .ok (.aload_n 1, 1) := by decide +kernel
theorem dX2_copy_66 : decode cX2_copy 66 = .ok (.getfield 32, 3) := by decide +kernel
theorem dX2_copy_69 : decode cX2_copy 69 = .ok (.putfield 32, 3) := by decide +kernel
theorem dX2_copy_72 : decode cX2_copy 72 = .ok (.aload_n 0, 1) := by decide +kernel
theorem dX2_copy_73 : decode cX2_copy 73 = .ok (.aload_n 1, 1) := by decide +kernel
theorem dX2_copy_74 : decode cX2_copy 74 = .ok (.getfield 35, 3) := by decide +kernel
theorem dX2_copy_77 : decode cX2_copy 77 = .ok (.putfield 35, 3) := by decide +kernel
theorem dX2_copy_80 : decode cX2_copy 80 = .ok (.aload_n 0, 1) := by decide +kernel
theorem dX2_copy_81 : decode cX2_copy 81 = .ok (.aload_n 1, 1) := by decide +kernel
theorem dX2_copy_82 : decode cX2_copy 82 = .ok (.getfield 38, 3) := by decide +kernel
theorem dX2_copy_85 : decode cX2_copy 85 = .ok (.putfield 38, 3) := by decide +kernel
theorem dX2_copy_88 : decode cX2_copy 88 = .ok (.return_, 1) := by decide +kernel
theorem dX2_forgetTrials_0 : decode cX2_forgetTrials 0 = .ok (.iconst 0, 1) := by decide +kernel
theorem dX2_forgetTrials_1 : decode cX2_forgetTrials 1 = .ok (.istore_n 1, 1) := by decide +kernel
theorem dX2_forgetTrials_2 : decode cX2_forgetTrials 2 = .ok (.iload_n 1, 1) := by decide +kernel
theorem dX2_forgetTrials_3 : decode cX2_forgetTrials 3 = .ok (.iconst 3, 1) := by decide +kernel
theorem dX2_forgetTrials_4 : decode cX2_forgetTrials 4 = .ok (.if_icmp .ge 18, 3) := by decide +kernel
theorem dX2_forgetTrials_7 : decode cX2_forgetTrials 7 = .ok (.aload_n 0, 1) := by decide +kernel
theorem dX2_forgetTrials_8 : decode cX2_forgetTrials 8 = .ok (.getfield 11, 3) := by decide +kernel
theorem dX2_forgetTrials_11 : decode cX2_forgetTrials 11 = .ok (.iload_n 1, 1) := by decide +kernel
theorem dX2_forgetTrials_12 : decode cX2_forgetTrials 12 = .ok (.aaload, 1) := by decide +kernel
theorem dX2_forgetTrials_13 : decode cX2_forgetTrials 13 = .ok (.invokevirtual 48, 3) := by decide +kernel
theorem dX2_forgetTrials_16 : decode cX2_forgetTrials 16 = .ok (.iinc 1 1, 3) := by decide +kernel
theorem dX2_forgetTrials_19 : decode cX2_forgetTrials 19 = .ok (.goto (-17), 3) := by decide +kernel
theorem dX2_forgetTrials_22 : decode cX2_forgetTrials 22 = .ok (.aload_n 0, 1) := by decide +kernel
theorem dX2_forgetTrials_23 : decode cX2_forgetTrials 23 = .ok (.iconst 0, 1) := by decide +kernel
theorem dX2_forgetTrials_24 : decode cX2_forgetTrials 24 = .ok (.putfield 38, 3) := by decide +kernel
theorem dX2_forgetTrials_27 : decode cX2_forgetTrials 27 = .ok (.return_, 1) := by decide +kernel
theorem dX2_beginNextDay_0 : decode cX2_beginNextDay 0 = .ok (.aload_n 0, 1) := by decide +kernel
theorem dX2_beginNextDay_1 : decode cX2_beginNextDay 1 = .ok (.dup, 1) := by decide +kernel
theorem dX2_beginNextDay_2 : decode cX2_beginNextDay 2 = .ok (.getfield 35, 3) := by decide +kernel
theorem dX2_beginNextDay_5 : decode cX2_beginNextDay 5 = .ok (.iconst 1, 1) := by decide +kernel
theorem dX2_beginNextDay_6 : decode cX2_beginNextDay 6 = .ok (.iadd, 1) := by decide +kernel
theorem dX2_beginNextDay_7 : decode cX2_beginNextDay 7 = .ok (.putfield 35, 3) := by decide +kernel
theorem dX2_beginNextDay_10 : decode cX2_beginNextDay 10 = .ok (.iconst 0, 1) := by decide +kernel
theorem dX2_beginNextDay_11 : decode cX2_beginNextDay 11 = .ok (.istore_n 1, 1) := by decide +kernel
theorem dX2_beginNextDay_12 : decode cX2_beginNextDay 12 = .ok (.iload_n 1, 1) := by decide +kernel
theorem dX2_beginNextDay_13 : decode cX2_beginNextDay 13 = .ok (.aload_n 0, 1) := by decide +kernel
theorem dX2_beginNextDay_14 : decode cX2_beginNextDay 14 = .ok (.getfield 28, 3) := by decide +kernel
theorem dX2_beginNextDay_17 : decode cX2_beginNextDay 17 = .ok (.if_icmp .ge 27, 3) := by decide +kernel
theorem dX2_beginNextDay_20 : decode cX2_beginNextDay 20 = .ok (.aload_n 0, 1) := by decide +kernel
theorem dX2_beginNextDay_21 : decode cX2_beginNextDay 21 = .ok (.getfield 19, 3) := by decide +kernel
theorem dX2_beginNextDay_24 : decode cX2_beginNextDay 24 = .ok (.iload_n 1, 1) := by decide +kernel
theorem dX2_beginNextDay_25 : decode cX2_beginNextDay 25 = .ok (.aaload, 1) := by decide +kernel
theorem dX2_beginNextDay_26 : decode cX2_beginNextDay 26 = .ok (.aload_n 0, 1) := by decide +kernel
theorem dX2_beginNextDay_27 : decode cX2_beginNextDay 27 = .ok (.getfield 19, 3) := by decide +kernel
theorem dX2_beginNextDay_30 : decode cX2_beginNextDay 30 = .ok (.iload_n 1, 1) := by decide +kernel
theorem dX2_beginNextDay_31 : decode cX2_beginNextDay 31 = .ok (.aaload, 1) := by decide +kernel
theorem dX2_beginNextDay_32 : decode cX2_beginNextDay 32 = .ok (.invokevirtual 51, 3) := by decide +kernel
theorem dX2_beginNextDay_35 : decode cX2_beginNextDay 35 = .ok (.putfield 55, 3) := by decide +kernel
theorem dX2_beginNextDay_38 : decode cX2_beginNextDay 38 = .ok (.iinc 1 1, 3) := by decide +kernel
theorem dX2_beginNextDay_41 : decode cX2_beginNextDay 41 = .ok (.goto (-29), 3) := by decide +kernel
theorem dX2_beginNextDay_44 : decode cX2_beginNextDay 44 = .ok (.return_, 1) := by decide +kernel
theorem dX2_hear_0 : decode cX2_hear 0 = .ok (.aload_n 1, 1) := by decide +kernel
theorem dX2_hear_1 : decode cX2_hear 1 = .ok (.dup, 1) := by decide +kernel
theorem dX2_hear_2 : decode cX2_hear 2 = .ok (.getfield 55, 3) := by decide +kernel
theorem dX2_hear_5 : decode cX2_hear 5 = .ok (.iconst 1, 1) := by decide +kernel
theorem dX2_hear_6 : decode cX2_hear 6 = .ok (.isub, 1) := by decide +kernel
theorem dX2_hear_7 : decode cX2_hear 7 = .ok (.putfield 55, 3) := by decide +kernel
theorem dX2_hear_10 : decode cX2_hear 10 = .ok (.aload_n 0, 1) := by decide +kernel
theorem dX2_hear_11 : decode cX2_hear 11 = .ok (.getfield 11, 3) := by decide +kernel
theorem dX2_hear_14 : decode cX2_hear 14 = .ok (.aload_n 1, 1) := by decide +kernel
theorem dX2_hear_15 : decode cX2_hear 15 = .ok (.getfield 58, 3) := by decide +kernel
theorem dX2_hear_18 : decode cX2_hear 18 = .ok (.aaload, 1) := by decide +kernel
theorem dX2_hear_19 : decode cX2_hear 19 = .ok (.astore_n 3, 1) := by decide +kernel
theorem dX2_hear_20 : decode cX2_hear 20 = .ok (.iconst 1, 1) := by decide +kernel
theorem dX2_hear_21 : decode cX2_hear 21 = .ok (.iload_n 2, 1) := by decide +kernel
theorem dX2_hear_22 : decode cX2_hear 22 = .ok (.ishl, 1) := by decide +kernel
theorem dX2_hear_23 : decode cX2_hear 23 = .ok (.istore 4, 2) := by decide +kernel
theorem dX2_hear_25 : decode cX2_hear 25 = .ok (.aload_n 3, 1) := by decide +kernel
theorem dX2_hear_26 : decode cX2_hear 26 = .ok (.getfield 61, 3) := by decide +kernel
theorem dX2_hear_29 : decode cX2_hear 29 = .ok (.iload 4, 2) := by decide +kernel
theorem dX2_hear_31 : decode cX2_hear 31 = .ok (.iand, 1) := by decide +kernel
theorem dX2_hear_32 : decode cX2_hear 32 = .ok (.ifCond .eq 5, 3) := by decide +kernel
theorem dX2_hear_35 : decode cX2_hear 35 = .ok (.iconst 0, 1) := by decide +kernel
theorem dX2_hear_36 : decode cX2_hear 36 = .ok (.ireturn, 1) := by decide +kernel
theorem dX2_hear_37 : decode cX2_hear 37 = .ok (.aload_n 3, 1) := by decide +kernel
theorem dX2_hear_38 : decode cX2_hear 38 = .ok (.getfield 64, 3) := by decide +kernel
theorem dX2_hear_41 : decode cX2_hear 41 = .ok (.iload 4, 2) := by decide +kernel
theorem dX2_hear_43 : decode cX2_hear 43 = .ok (.iand, 1) := by decide +kernel
theorem dX2_hear_44 : decode cX2_hear 44 = .ok (.ifCond .ne 30, 3) := by decide +kernel
theorem dX2_hear_47 : decode cX2_hear 47 = .ok (.aload_n 1, 1) := by decide +kernel
theorem dX2_hear_48 : decode cX2_hear 48 = .ok (.getfield 67, 3) := by decide +kernel
theorem dX2_hear_51 : decode cX2_hear 51 = .ok (.iconst 2, 1) := by decide +kernel
theorem dX2_hear_52 : decode cX2_hear 52 = .ok (.if_icmp .ne 10, 3) := by decide +kernel
theorem dX2_hear_55 : decode cX2_hear 55 = .ok (.aload_n 0, 1) := by decide +kernel
theorem dX2_hear_56 : decode cX2_hear 56 = .ok (.getfield 32, 3) := by decide +kernel
theorem dX2_hear_59 : decode cX2_hear 59 = .ok (.ifCond .ne 5, 3) := by decide +kernel
theorem dX2_hear_62 : decode cX2_hear 62 = .ok (.iconst 0, 1) := by decide +kernel
theorem dX2_hear_63 : decode cX2_hear 63 = .ok (.ireturn, 1) := by decide +kernel
theorem dX2_hear_64 : decode cX2_hear 64 = .ok (.aload_n 0, 1) := by decide +kernel
theorem dX2_hear_65 : decode cX2_hear 65 = .ok (.dup, 1) := by decide +kernel
theorem dX2_hear_66 : decode cX2_hear 66 = .ok (.getfield 32, 3) := by decide +kernel
theorem dX2_hear_69 : decode cX2_hear 69 = .ok (.iconst 1, 1) := by decide +kernel
theorem dX2_hear_70 : decode cX2_hear 70 = .ok (.isub, 1) := by decide +kernel
theorem dX2_hear_71 : decode cX2_hear 71 = .ok (.putfield 32, 3) := by decide +kernel
theorem dX2_hear_74 : decode cX2_hear 74 = .ok (.aload_n 3, 1) := by decide +kernel
theorem dX2_hear_75 : decode cX2_hear 75 = .ok (.dup, 1) := by decide +kernel
theorem dX2_hear_76 : decode cX2_hear 76 = .ok (.getfield 61, 3) := by decide +kernel
theorem dX2_hear_79 : decode cX2_hear 79 = .ok (.iload 4, 2) := by decide +kernel
theorem dX2_hear_81 : decode cX2_hear 81 = .ok (.ior, 1) := by decide +kernel
theorem dX2_hear_82 : decode cX2_hear 82 = .ok (.putfield 61, 3) := by decide +kernel
theorem dX2_hear_85 : decode cX2_hear 85 = .ok (.aload_n 1, 1) := by decide +kernel
theorem dX2_hear_86 : decode cX2_hear 86 = .ok (.invokevirtual 70, 3) := by decide +kernel
theorem dX2_hear_89 : decode cX2_hear 89 = .ok (.iconst 1, 1) := by decide +kernel
theorem dX2_hear_90 : decode cX2_hear 90 = .ok (.ireturn, 1) := by decide +kernel
theorem dX2_leftTo_0 : decode cX2_leftTo 0 = .ok (.aload_n 1, 1) := by decide +kernel
theorem dX2_leftTo_1 : decode cX2_leftTo 1 = .ok (.getfield 73, 3) := by decide +kernel
theorem dX2_leftTo_4 : decode cX2_leftTo 4 = .ok (.aload_n 0, 1) := by decide +kernel
theorem dX2_leftTo_5 : decode cX2_leftTo 5 = .ok (.getfield 11, 3) := by decide +kernel
theorem dX2_leftTo_8 : decode cX2_leftTo 8 = .ok (.aload_n 1, 1) := by decide +kernel
theorem dX2_leftTo_9 : decode cX2_leftTo 9 = .ok (.getfield 58, 3) := by decide +kernel
theorem dX2_leftTo_12 : decode cX2_leftTo 12 = .ok (.aaload, 1) := by decide +kernel
theorem dX2_leftTo_13 : decode cX2_leftTo 13 = .ok (.invokevirtual 76, 3) := by decide +kernel
theorem dX2_leftTo_16 : decode cX2_leftTo 16 = .ok (.iand, 1) := by decide +kernel
theorem dX2_leftTo_17 : decode cX2_leftTo 17 = .ok (.ireturn, 1) := by decide +kernel
theorem dX2_daysFor_0 : decode cX2_daysFor 0 = .ok (.aload_n 1, 1) := by decide +kernel
theorem dX2_daysFor_1 : decode cX2_daysFor 1 = .ok (.invokevirtual 79, 3) := by decide +kernel
theorem dX2_daysFor_4 : decode cX2_daysFor 4 = .ok (.ifCond .eq 5, 3) := by decide +kernel
theorem dX2_daysFor_7 : decode cX2_daysFor 7 = .ok (.iconst 0, 1) := by decide +kernel
theorem dX2_daysFor_8 : decode cX2_daysFor 8 = .ok (.ireturn, 1) := by decide +kernel
theorem dX2_daysFor_9 : decode cX2_daysFor 9 = .ok (.aload_n 1, 1) := by decide +kernel
theorem dX2_daysFor_10 : decode cX2_daysFor 10 = .ok (.invokevirtual 83, 3) := by decide +kernel
theorem dX2_daysFor_13 : decode cX2_daysFor 13 = .ok (.istore_n 2, 1) := by decide +kernel
theorem dX2_daysFor_14 : decode cX2_daysFor 14 = .ok (.aload_n 0, 1) := by decide +kernel
theorem dX2_daysFor_15 : decode cX2_daysFor 15 = .ok (.aload_n 1, 1) := by decide +kernel
theorem dX2_daysFor_16 : decode cX2_daysFor 16 = .ok (.invokevirtual 86, 3) := by decide +kernel
theorem dX2_daysFor_19 : decode cX2_daysFor 19 = .ok (.invokestatic 90, 3) := by decide +kernel
theorem dX2_daysFor_22 : decode cX2_daysFor 22 = .ok (.iload_n 2, 1) := by decide +kernel
theorem dX2_daysFor_23 : decode cX2_daysFor 23 = .ok (.if_icmp .ge 5, 3) := by decide +kernel
theorem dX2_daysFor_26 : decode cX2_daysFor 26 = .ok (.iconst (-1), 1) := by decide +kernel
theorem dX2_daysFor_27 : decode cX2_daysFor 27 = .ok (.ireturn, 1) := by decide +kernel
theorem dX2_daysFor_28 : decode cX2_daysFor 28 = .ok (.iconst 1, 1) := by decide +kernel
theorem dX2_daysFor_29 : decode cX2_daysFor 29 = .ok (.istore_n 3, 1) := by decide +kernel
theorem dX2_daysFor_30 : decode cX2_daysFor 30 = .ok (.aload_n 1, 1) := by decide +kernel
theorem dX2_daysFor_31 : decode cX2_daysFor 31 = .ok (.getfield 55, 3) := by decide +kernel
theorem dX2_daysFor_34 : decode cX2_daysFor 34 = .ok (.istore 4, 2) := by decide +kernel
theorem dX2_daysFor_36 : decode cX2_daysFor 36 = .ok (.iload 4, 2) := by decide +kernel
theorem dX2_daysFor_38 : decode cX2_daysFor 38 = .ok (.iload_n 2, 1) := by decide +kernel
theorem dX2_daysFor_39 : decode cX2_daysFor 39 = .ok (.if_icmp .ge 24, 3) := by decide +kernel
theorem dX2_daysFor_42 : decode cX2_daysFor 42 = .ok (.iload_n 3, 1) := by decide +kernel
theorem dX2_daysFor_43 : decode cX2_daysFor 43 = .ok (.bipush 6, 2) := by decide +kernel
theorem dX2_daysFor_45 : decode cX2_daysFor 45 = .ok (.if_icmp .gt 18, 3) := by decide +kernel
theorem dX2_daysFor_48 : decode cX2_daysFor 48 = .ok (.iload 4, 2) := by decide +kernel
theorem dX2_daysFor_50 : decode cX2_daysFor 50 = .ok (.aload_n 1, 1) := by decide +kernel
theorem dX2_daysFor_51 : decode cX2_daysFor 51 = .ok (.invokevirtual 51, 3) := by decide +kernel
theorem dX2_daysFor_54 : decode cX2_daysFor 54 = .ok (.iadd, 1) := by decide +kernel
theorem dX2_daysFor_55 : decode cX2_daysFor 55 = .ok (.istore 4, 2) := by decide +kernel
theorem dX2_daysFor_57 : decode cX2_daysFor 57 = .ok (.iinc 3 1, 3) := by decide +kernel
theorem dX2_daysFor_60 : decode cX2_daysFor 60 = .ok (.goto (-24), 3) := by decide +kernel
theorem dX2_daysFor_63 : decode cX2_daysFor 63 = .ok (.iload_n 3, 1) := by decide +kernel
theorem dX2_daysFor_64 : decode cX2_daysFor 64 = .ok (.ireturn, 1) := by decide +kernel
theorem dX2_findFor_0 : decode cX2_findFor 0 = .ok (.aload_n 1, 1) := by decide +kernel
theorem dX2_findFor_1 : decode cX2_findFor 1 = .ok (.invokevirtual 83, 3) := by decide +kernel
theorem dX2_findFor_4 : decode cX2_findFor 4 = .ok (.aload_n 0, 1) := by decide +kernel
theorem dX2_findFor_5 : decode cX2_findFor 5 = .ok (.aload_n 1, 1) := by decide +kernel
theorem dX2_findFor_6 : decode cX2_findFor 6 = .ok (.invokevirtual 86, 3) := by decide +kernel
theorem dX2_findFor_9 : decode cX2_findFor 9 = .ok (.invokestatic 90, 3) := by decide +kernel
theorem dX2_findFor_12 : decode cX2_findFor 12 = .ok (.isub, 1) := by decide +kernel
theorem dX2_findFor_13 : decode cX2_findFor 13 = .ok (.istore_n 2, 1) := by decide +kernel
theorem dX2_findFor_14 : decode cX2_findFor 14 = .ok (.iload_n 2, 1) := by decide +kernel
theorem dX2_findFor_15 : decode cX2_findFor 15 = .ok (.ifCond .gt 5, 3) := by decide +kernel
theorem dX2_findFor_18 : decode cX2_findFor 18 = .ok (.iconst 0, 1) := by decide +kernel
theorem dX2_findFor_19 : decode cX2_findFor 19 = .ok (.ireturn, 1) := by decide +kernel
theorem dX2_findFor_20 : decode cX2_findFor 20 = .ok (.aload_n 0, 1) := by decide +kernel
theorem dX2_findFor_21 : decode cX2_findFor 21 = .ok (.getfield 11, 3) := by decide +kernel
theorem dX2_findFor_24 : decode cX2_findFor 24 = .ok (.aload_n 1, 1) := by decide +kernel
theorem dX2_findFor_25 : decode cX2_findFor 25 = .ok (.getfield 58, 3) := by decide +kernel
theorem dX2_findFor_28 : decode cX2_findFor 28 = .ok (.aaload, 1) := by decide +kernel
theorem dX2_findFor_29 : decode cX2_findFor 29 = .ok (.invokevirtual 76, 3) := by decide +kernel
theorem dX2_findFor_32 : decode cX2_findFor 32 = .ok (.aload_n 1, 1) := by decide +kernel
theorem dX2_findFor_33 : decode cX2_findFor 33 = .ok (.getfield 73, 3) := by decide +kernel
theorem dX2_findFor_36 : decode cX2_findFor 36 = .ok (.iconst (-1), 1) := by decide +kernel
theorem dX2_findFor_37 : decode cX2_findFor 37 = .ok (.ixor, 1) := by decide +kernel
theorem dX2_findFor_38 : decode cX2_findFor 38 = .ok (.iand, 1) := by decide +kernel
theorem dX2_findFor_39 : decode cX2_findFor 39 = .ok (.istore_n 3, 1) := by decide +kernel
theorem dX2_findFor_40 : decode cX2_findFor 40 = .ok (.iload_n 2, 1) := by decide +kernel
theorem dX2_findFor_41 : decode cX2_findFor 41 = .ok (.iload_n 3, 1) := by decide +kernel
theorem dX2_findFor_42 : decode cX2_findFor 42 = .ok (.invokestatic 90, 3) := by decide +kernel
theorem dX2_findFor_45 : decode cX2_findFor 45 = .ok (.if_icmp .gt 7, 3) := by decide +kernel
theorem dX2_findFor_48 : decode cX2_findFor 48 = .ok (.iload_n 2, 1) := by decide +kernel
theorem dX2_findFor_49 : decode cX2_findFor 49 = .ok (.goto 4, 3) := by decide +kernel
theorem dX2_findFor_52 : decode cX2_findFor 52 = .ok (.iconst (-1), 1) := by decide +kernel
theorem dX2_findFor_53 : decode cX2_findFor 53 = .ok (.ireturn, 1) := by decide +kernel
theorem dX2_allConvicts_0 : decode cX2_allConvicts 0 = .ok (.iconst 1, 1) := by decide +kernel
theorem dX2_allConvicts_1 : decode cX2_allConvicts 1 = .ok (.aload_n 0, 1) := by decide +kernel
theorem dX2_allConvicts_2 : decode cX2_allConvicts 2 = .ok (.getfield 28, 3) := by decide +kernel
theorem dX2_allConvicts_5 : decode cX2_allConvicts 5 = .ok (.ishl, 1) := by decide +kernel
theorem dX2_allConvicts_6 : decode cX2_allConvicts 6 = .ok (.iconst 1, 1) := by decide +kernel
theorem dX2_allConvicts_7 : decode cX2_allConvicts 7 = .ok (.isub, 1) := by decide +kernel
theorem dX2_allConvicts_8 : decode cX2_allConvicts 8 = .ok (.ireturn, 1) := by decide +kernel
theorem dX2_convictsOf_0 : decode cX2_convictsOf 0 = .ok (.iconst 0, 1) := by decide +kernel
theorem dX2_convictsOf_1 : decode cX2_convictsOf 1 = .ok (.istore_n 2, 1) := by decide +kernel
theorem dX2_convictsOf_2 : decode cX2_convictsOf 2 = .ok (.iconst 0, 1) := by decide +kernel
theorem dX2_convictsOf_3 : decode cX2_convictsOf 3 = .ok (.istore_n 3, 1) := by decide +kernel
theorem dX2_convictsOf_4 : decode cX2_convictsOf 4 = .ok (.iload_n 3, 1) := by decide +kernel
theorem dX2_convictsOf_5 : decode cX2_convictsOf 5 = .ok (.aload_n 0, 1) := by decide +kernel
theorem dX2_convictsOf_6 : decode cX2_convictsOf 6 = .ok (.getfield 28, 3) := by decide +kernel
theorem dX2_convictsOf_9 : decode cX2_convictsOf 9 = .ok (.if_icmp .ge 28, 3) := by decide +kernel
theorem dX2_convictsOf_12 : decode cX2_convictsOf 12 = .ok (.aload_n 0, 1) := by decide +kernel
theorem dX2_convictsOf_13 : decode cX2_convictsOf 13 = .ok (.getfield 19, 3) := by decide +kernel
theorem dX2_convictsOf_16 : decode cX2_convictsOf 16 = .ok (.iload_n 3, 1) := by decide +kernel
theorem dX2_convictsOf_17 : decode cX2_convictsOf 17 = .ok (.aaload, 1) := by decide +kernel
theorem dX2_convictsOf_18 : decode cX2_convictsOf 18 = .ok (.getfield 58, 3) := by decide +kernel
theorem dX2_convictsOf_21 : decode cX2_convictsOf 21 = .ok (.iload_n 1, 1) := by decide +kernel
theorem dX2_convictsOf_22 : decode cX2_convictsOf 22 = .ok (.if_icmp .ne 9, 3) := by decide +kernel
theorem dX2_convictsOf_25 : decode cX2_convictsOf 25 = .ok (.iload_n 2, 1) := by decide +kernel
theorem dX2_convictsOf_26 : decode cX2_convictsOf 26 = .ok (.iconst 1, 1) := by decide +kernel
theorem dX2_convictsOf_27 : decode cX2_convictsOf 27 = .ok (.iload_n 3, 1) := by decide +kernel
theorem dX2_convictsOf_28 : decode cX2_convictsOf 28 = .ok (.ishl, 1) := by decide +kernel
theorem dX2_convictsOf_29 : decode cX2_convictsOf 29 = .ok (.ior, 1) := by decide +kernel
theorem dX2_convictsOf_30 : decode cX2_convictsOf 30 = .ok (.istore_n 2, 1) := by decide +kernel
theorem dX2_convictsOf_31 : decode cX2_convictsOf 31 = .ok (.iinc 3 1, 3) := by decide +kernel
theorem dX2_convictsOf_34 : decode cX2_convictsOf 34 = .ok (.goto (-30), 3) := by decide +kernel
theorem dX2_convictsOf_37 : decode cX2_convictsOf 37 = .ok (.iload_n 2, 1) := by decide +kernel
theorem dX2_convictsOf_38 : decode cX2_convictsOf 38 = .ok (.ireturn, 1) := by decide +kernel
theorem dX2_finesOf_0 : decode cX2_finesOf 0 = .ok (.iconst 0, 1) := by decide +kernel
theorem dX2_finesOf_1 : decode cX2_finesOf 1 = .ok (.istore_n 2, 1) := by decide +kernel
theorem dX2_finesOf_2 : decode cX2_finesOf 2 = .ok (.iconst 0, 1) := by decide +kernel
theorem dX2_finesOf_3 : decode cX2_finesOf 3 = .ok (.istore_n 3, 1) := by decide +kernel
theorem dX2_finesOf_4 : decode cX2_finesOf 4 = .ok (.iload_n 3, 1) := by decide +kernel
theorem dX2_finesOf_5 : decode cX2_finesOf 5 = .ok (.aload_n 0, 1) := by decide +kernel
theorem dX2_finesOf_6 : decode cX2_finesOf 6 = .ok (.getfield 28, 3) := by decide +kernel
theorem dX2_finesOf_9 : decode cX2_finesOf 9 = .ok (.if_icmp .ge 29, 3) := by decide +kernel
theorem dX2_finesOf_12 : decode cX2_finesOf 12 = .ok (.iload_n 1, 1) := by decide +kernel
theorem dX2_finesOf_13 : decode cX2_finesOf 13 = .ok (.iconst 1, 1) := by decide +kernel
theorem dX2_finesOf_14 : decode cX2_finesOf 14 = .ok (.iload_n 3, 1) := by decide +kernel
theorem dX2_finesOf_15 : decode cX2_finesOf 15 = .ok (.ishl, 1) := by decide +kernel
theorem dX2_finesOf_16 : decode cX2_finesOf 16 = .ok (.iand, 1) := by decide +kernel
theorem dX2_finesOf_17 : decode cX2_finesOf 17 = .ok (.ifCond .eq 15, 3) := by decide +kernel
theorem dX2_finesOf_20 : decode cX2_finesOf 20 = .ok (.iload_n 2, 1) := by decide +kernel
theorem dX2_finesOf_21 : decode cX2_finesOf 21 = .ok (.aload_n 0, 1) := by decide +kernel
theorem dX2_finesOf_22 : decode cX2_finesOf 22 = .ok (.getfield 19, 3) := by decide +kernel
theorem dX2_finesOf_25 : decode cX2_finesOf 25 = .ok (.iload_n 3, 1) := by decide +kernel
theorem dX2_finesOf_26 : decode cX2_finesOf 26 = .ok (.aaload, 1) := by decide +kernel
theorem dX2_finesOf_27 : decode cX2_finesOf 27 = .ok (.getfield 96, 3) := by decide +kernel
theorem dX2_finesOf_30 : decode cX2_finesOf 30 = .ok (.iadd, 1) := by decide +kernel
theorem dX2_finesOf_31 : decode cX2_finesOf 31 = .ok (.istore_n 2, 1) := by decide +kernel
theorem dX2_finesOf_32 : decode cX2_finesOf 32 = .ok (.iinc 3 1, 3) := by decide +kernel
theorem dX2_finesOf_35 : decode cX2_finesOf 35 = .ok (.goto (-31), 3) := by decide +kernel
theorem dX2_finesOf_38 : decode cX2_finesOf 38 = .ok (.iload_n 2, 1) := by decide +kernel
theorem dX2_finesOf_39 : decode cX2_finesOf 39 = .ok (.ireturn, 1) := by decide +kernel
theorem dX2_needsOfAll_0 : decode cX2_needsOfAll 0 = .ok (.iconst 0, 1) := by decide +kernel
theorem dX2_needsOfAll_1 : decode cX2_needsOfAll 1 = .ok (.istore_n 1, 1) := by decide +kernel
theorem dX2_needsOfAll_2 : decode cX2_needsOfAll 2 = .ok (.iconst 0, 1) := by decide +kernel
theorem dX2_needsOfAll_3 : decode cX2_needsOfAll 3 = .ok (.istore_n 2, 1) := by decide +kernel
theorem dX2_needsOfAll_4 : decode cX2_needsOfAll 4 = .ok (.iload_n 2, 1) := by decide +kernel
theorem dX2_needsOfAll_5 : decode cX2_needsOfAll 5 = .ok (.aload_n 0, 1) := by decide +kernel
theorem dX2_needsOfAll_6 : decode cX2_needsOfAll 6 = .ok (.getfield 28, 3) := by decide +kernel
theorem dX2_needsOfAll_9 : decode cX2_needsOfAll 9 = .ok (.if_icmp .ge 21, 3) := by decide +kernel
theorem dX2_needsOfAll_12 : decode cX2_needsOfAll 12 = .ok (.iload_n 1, 1) := by decide +kernel
theorem dX2_needsOfAll_13 : decode cX2_needsOfAll 13 = .ok (.aload_n 0, 1) := by decide +kernel
theorem dX2_needsOfAll_14 : decode cX2_needsOfAll 14 = .ok (.getfield 19, 3) := by decide +kernel
theorem dX2_needsOfAll_17 : decode cX2_needsOfAll 17 = .ok (.iload_n 2, 1) := by decide +kernel
theorem dX2_needsOfAll_18 : decode cX2_needsOfAll 18 = .ok (.aaload, 1) := by decide +kernel
theorem dX2_needsOfAll_19 : decode cX2_needsOfAll 19 = .ok (.invokevirtual 83, 3) := by decide +kernel
theorem dX2_needsOfAll_22 : decode cX2_needsOfAll 22 = .ok (.iadd, 1) := by decide +kernel
theorem dX2_needsOfAll_23 : decode cX2_needsOfAll 23 = .ok (.istore_n 1, 1) := by decide +kernel
theorem dX2_needsOfAll_24 : decode cX2_needsOfAll 24 = .ok (.iinc 2 1, 3) := by decide +kernel
theorem dX2_needsOfAll_27 : decode cX2_needsOfAll 27 = .ok (.goto (-23), 3) := by decide +kernel
theorem dX2_needsOfAll_30 : decode cX2_needsOfAll 30 = .ok (.iload_n 1, 1) := by decide +kernel
theorem dX2_needsOfAll_31 : decode cX2_needsOfAll 31 = .ok (.ireturn, 1) := by decide +kernel
theorem dX2_paidCount_0 : decode cX2_paidCount 0 = .ok (.iconst 0, 1) := by decide +kernel
theorem dX2_paidCount_1 : decode cX2_paidCount 1 = .ok (.istore_n 1, 1) := by decide +kernel
theorem dX2_paidCount_2 : decode cX2_paidCount 2 = .ok (.iconst 0, 1) := by decide +kernel
theorem dX2_paidCount_3 : decode cX2_paidCount 3 = .ok (.istore_n 2, 1) := by decide +kernel
theorem dX2_paidCount_4 : decode cX2_paidCount 4 = .ok (.iload_n 2, 1) := by decide +kernel
theorem dX2_paidCount_5 : decode cX2_paidCount 5 = .ok (.aload_n 0, 1) := by decide +kernel
theorem dX2_paidCount_6 : decode cX2_paidCount 6 = .ok (.getfield 28, 3) := by decide +kernel
theorem dX2_paidCount_9 : decode cX2_paidCount 9 = .ok (.if_icmp .ge 24, 3) := by decide +kernel
theorem dX2_paidCount_12 : decode cX2_paidCount 12 = .ok (.aload_n 0, 1) := by decide +kernel
theorem dX2_paidCount_13 : decode cX2_paidCount 13 = .ok (.getfield 19, 3) := by decide +kernel
theorem dX2_paidCount_16 : decode cX2_paidCount 16 = .ok (.iload_n 2, 1) := by decide +kernel
theorem dX2_paidCount_17 : decode cX2_paidCount 17 = .ok (.aaload, 1) := by decide +kernel
theorem dX2_paidCount_18 : decode cX2_paidCount 18 = .ok (.invokevirtual 79, 3) := by decide +kernel
theorem dX2_paidCount_21 : decode cX2_paidCount 21 = .ok (.ifCond .eq 6, 3) := by decide +kernel
theorem dX2_paidCount_24 : decode cX2_paidCount 24 = .ok (.iinc 1 1, 3) := by decide +kernel
theorem dX2_paidCount_27 : decode cX2_paidCount 27 = .ok (.iinc 2 1, 3) := by decide +kernel
theorem dX2_paidCount_30 : decode cX2_paidCount 30 = .ok (.goto (-26), 3) := by decide +kernel
theorem dX2_paidCount_33 : decode cX2_paidCount 33 = .ok (.iload_n 1, 1) := by decide +kernel
theorem dX2_paidCount_34 : decode cX2_paidCount 34 = .ok (.ireturn, 1) := by decide +kernel
theorem dX2_truthsOfAll_0 : decode cX2_truthsOfAll 0 = .ok (.iconst 0, 1) := by decide +kernel
theorem dX2_truthsOfAll_1 : decode cX2_truthsOfAll 1 = .ok (.istore_n 1, 1) := by decide +kernel
theorem dX2_truthsOfAll_2 : decode cX2_truthsOfAll 2 = .ok (.iconst 0, 1) := by decide +kernel
theorem dX2_truthsOfAll_3 : decode cX2_truthsOfAll 3 = .ok (.istore_n 2, 1) := by decide +kernel
theorem dX2_truthsOfAll_4 : decode cX2_truthsOfAll 4 = .ok (.iload_n 2, 1) := by decide +kernel
theorem dX2_truthsOfAll_5 : decode cX2_truthsOfAll 5 = .ok (.iconst 3, 1) := by decide +kernel
theorem dX2_truthsOfAll_6 : decode cX2_truthsOfAll 6 = .ok (.if_icmp .ge 24, 3) := by decide +kernel
theorem dX2_truthsOfAll_9 : decode cX2_truthsOfAll 9 = .ok (.iload_n 1, 1) := by decide +kernel
theorem dX2_truthsOfAll_10 : decode cX2_truthsOfAll 10 = .ok (.aload_n 0, 1) := by decide +kernel
theorem dX2_truthsOfAll_11 : decode cX2_truthsOfAll 11 = .ok (.getfield 11, 3) := by decide +kernel
theorem dX2_truthsOfAll_14 : decode cX2_truthsOfAll 14 = .ok (.iload_n 2, 1) := by decide +kernel
theorem dX2_truthsOfAll_15 : decode cX2_truthsOfAll 15 = .ok (.aaload, 1) := by decide +kernel
theorem dX2_truthsOfAll_16 : decode cX2_truthsOfAll 16 = .ok (.getfield 64, 3) := by decide +kernel
theorem dX2_truthsOfAll_19 : decode cX2_truthsOfAll 19 = .ok (.invokestatic 90, 3) := by decide +kernel
theorem dX2_truthsOfAll_22 : decode cX2_truthsOfAll 22 = .ok (.iadd, 1) := by decide +kernel
theorem dX2_truthsOfAll_23 : decode cX2_truthsOfAll 23 = .ok (.istore_n 1, 1) := by decide +kernel
theorem dX2_truthsOfAll_24 : decode cX2_truthsOfAll 24 = .ok (.iinc 2 1, 3) := by decide +kernel
theorem dX2_truthsOfAll_27 : decode cX2_truthsOfAll 27 = .ok (.goto (-23), 3) := by decide +kernel
theorem dX2_truthsOfAll_30 : decode cX2_truthsOfAll 30 = .ok (.iload_n 1, 1) := by decide +kernel
theorem dX2_truthsOfAll_31 : decode cX2_truthsOfAll 31 = .ok (.ireturn, 1) := by decide +kernel
theorem dX2_usedOfAll_0 : decode cX2_usedOfAll 0 = .ok (.iconst 0, 1) := by decide +kernel
theorem dX2_usedOfAll_1 : decode cX2_usedOfAll 1 = .ok (.istore_n 1, 1) := by decide +kernel
theorem dX2_usedOfAll_2 : decode cX2_usedOfAll 2 = .ok (.iconst 0, 1) := by decide +kernel
theorem dX2_usedOfAll_3 : decode cX2_usedOfAll 3 = .ok (.istore_n 2, 1) := by decide +kernel
theorem dX2_usedOfAll_4 : decode cX2_usedOfAll 4 = .ok (.iload_n 2, 1) := by decide +kernel
theorem dX2_usedOfAll_5 : decode cX2_usedOfAll 5 = .ok (.iconst 3, 1) := by decide +kernel
theorem dX2_usedOfAll_6 : decode cX2_usedOfAll 6 = .ok (.if_icmp .ge 24, 3) := by decide +kernel
theorem dX2_usedOfAll_9 : decode cX2_usedOfAll 9 = .ok (.iload_n 1, 1) := by decide +kernel
theorem dX2_usedOfAll_10 : decode cX2_usedOfAll 10 = .ok (.aload_n 0, 1) := by decide +kernel
theorem dX2_usedOfAll_11 : decode cX2_usedOfAll 11 = .ok (.getfield 11, 3) := by decide +kernel
theorem dX2_usedOfAll_14 : decode cX2_usedOfAll 14 = .ok (.iload_n 2, 1) := by decide +kernel
theorem dX2_usedOfAll_15 : decode cX2_usedOfAll 15 = .ok (.aaload, 1) := by decide +kernel
theorem dX2_usedOfAll_16 : decode cX2_usedOfAll 16 = .ok (.getfield 61, 3) := by decide +kernel
theorem dX2_usedOfAll_19 : decode cX2_usedOfAll 19 = .ok (.invokestatic 90, 3) := by decide +kernel
theorem dX2_usedOfAll_22 : decode cX2_usedOfAll 22 = .ok (.iadd, 1) := by decide +kernel
theorem dX2_usedOfAll_23 : decode cX2_usedOfAll 23 = .ok (.istore_n 1, 1) := by decide +kernel
theorem dX2_usedOfAll_24 : decode cX2_usedOfAll 24 = .ok (.iinc 2 1, 3) := by decide +kernel
theorem dX2_usedOfAll_27 : decode cX2_usedOfAll 27 = .ok (.goto (-23), 3) := by decide +kernel
theorem dX2_usedOfAll_30 : decode cX2_usedOfAll 30 = .ok (.iload_n 1, 1) := by decide +kernel
theorem dX2_usedOfAll_31 : decode cX2_usedOfAll 31 = .ok (.ireturn, 1) := by decide +kernel
theorem dX3_init_0 : decode cX3_init 0 = .ok (.aload_n 0, 1) := by decide +kernel
theorem dX3_init_1 : decode cX3_init 1 = .ok (.invokespecial 3, 3) := by decide +kernel
theorem dX3_init_4 : decode cX3_init 4 = .ok (.return_, 1) := by decide +kernel
theorem dX3_clear_0 : decode cX3_clear 0 = .ok (.aload_n 0, 1) := by decide +kernel
theorem dX3_clear_1 : decode cX3_clear 1 = .ok (.iconst 0, 1) := by decide +kernel
theorem dX3_clear_2 : decode cX3_clear 2 = .ok (.putfield 9, 3) := by decide +kernel
theorem dX3_clear_5 : decode cX3_clear 5 = .ok (.aload_n 0, 1) := by decide +kernel
theorem dX3_clear_6 : decode cX3_clear 6 = .ok (.iconst 0, 1) := by decide +kernel
theorem dX3_clear_7 : decode cX3_clear 7 = .ok (.putfield 15, 3) := by decide +kernel
theorem dX3_clear_10 : decode cX3_clear 10 = .ok (.aload_n 0, 1) := by decide +kernel
theorem dX3_clear_11 : decode cX3_clear 11 = .ok (.invokevirtual 18, 3) := by decide +kernel
theorem dX3_clear_14 : decode cX3_clear 14 = .ok (.return_, 1) := by decide +kernel
theorem dX3_copy_0 : decode cX3_copy 0 = .ok (.aload_n 0, 1) := by decide +kernel
theorem dX3_copy_1 : decode cX3_copy 1 = .ok (.aload_n 1, 1) := by decide +kernel
theorem dX3_copy_2 : decode cX3_copy 2 = .ok (.getfield 9, 3) := by decide +kernel
theorem dX3_copy_5 : decode cX3_copy 5 = .ok (.putfield 9, 3) := by decide +kernel
theorem dX3_copy_8 : decode cX3_copy 8 = .ok (.aload_n 0, 1) := by decide +kernel
theorem dX3_copy_9 : decode cX3_copy 9 = .ok (.aload_n 1, 1) := by decide +kernel
theorem dX3_copy_10 : decode cX3_copy 10 = .ok (.getfield 15, 3) := by decide +kernel
theorem dX3_copy_13 : decode cX3_copy 13 = .ok (.putfield 15, 3) := by decide +kernel
theorem dX3_copy_16 : decode cX3_copy 16 = .ok (.aload_n 0, 1) := by decide +kernel
theorem dX3_copy_17 : decode cX3_copy 17 = .ok (.aload_n 1, 1) := by decide +kernel
theorem dX3_copy_18 : decode cX3_copy 18 = .ok (.getfield 21, 3) := by decide +kernel
theorem dX3_copy_21 : decode cX3_copy 21 = .ok (.putfield 21, 3) := by decide +kernel
theorem dX3_copy_24 : decode cX3_copy 24 = .ok (.aload_n 0, 1) := by decide +kernel
theorem dX3_copy_25 : decode cX3_copy 25 = .ok (.aload_n 1, 1) := by decide +kernel
theorem dX3_copy_26 : decode cX3_copy 26 = .ok (.getfield 24, 3) := by decide +kernel
theorem dX3_copy_29 : decode cX3_copy 29 = .ok (.putfield 24, 3) := by decide +kernel
theorem dX3_copy_32 : decode cX3_copy 32 = .ok (.return_, 1) := by decide +kernel
theorem dX3_forgetTrials_0 : decode cX3_forgetTrials 0 = .ok (.aload_n 0, 1) := by decide +kernel
theorem dX3_forgetTrials_1 : decode cX3_forgetTrials 1 = .ok (.iconst 0, 1) := by decide +kernel
theorem dX3_forgetTrials_2 : decode cX3_forgetTrials 2 = .ok (.putfield 21, 3) := by decide +kernel
theorem dX3_forgetTrials_5 : decode cX3_forgetTrials 5 = .ok (.aload_n 0, 1) := by decide +kernel
theorem dX3_forgetTrials_6 : decode cX3_forgetTrials 6 = .ok (.iconst 0, 1) := by decide +kernel
theorem dX3_forgetTrials_7 : decode cX3_forgetTrials 7 = .ok (.putfield 24, 3) := by decide +kernel
theorem dX3_forgetTrials_10 : decode cX3_forgetTrials 10 = .ok (.return_, 1) := by decide +kernel
theorem dX3_tried_0 : decode cX3_tried 0 = .ok (.iload_n 2, 1) := by decide +kernel
theorem dX3_tried_1 : decode cX3_tried 1 = .ok (.ifCond .eq 18, 3) := by decide +kernel
theorem dX3_tried_4 : decode cX3_tried 4 = .ok (.aload_n 0, 1) := by decide +kernel
theorem dX3_tried_5 : decode cX3_tried 5 = .ok (.dup, 1) := by decide +kernel
theorem dX3_tried_6 : decode cX3_tried 6 = .ok (.getfield 21, 3) := by decide +kernel
theorem dX3_tried_9 : decode cX3_tried 9 = .ok (.iconst 1, 1) := by decide +kernel
theorem dX3_tried_10 : decode cX3_tried 10 = .ok (.iload_n 1, 1) := by decide +kernel
theorem dX3_tried_11 : decode cX3_tried 11 = .ok (.ishl, 1) := by decide +kernel
theorem dX3_tried_12 : decode cX3_tried 12 = .ok (.ior, 1) := by decide +kernel
theorem dX3_tried_13 : decode cX3_tried 13 = .ok (.putfield 21, 3) := by decide +kernel
theorem dX3_tried_16 : decode cX3_tried 16 = .ok (.goto 15, 3) := by decide +kernel
theorem dX3_tried_19 : decode cX3_tried 19 = .ok (.aload_n 0, 1) := by decide +kernel
theorem dX3_tried_20 : decode cX3_tried 20 = .ok (.dup, 1) := by decide +kernel
theorem dX3_tried_21 : decode cX3_tried 21 = .ok (.getfield 24, 3) := by decide +kernel
theorem dX3_tried_24 : decode cX3_tried 24 = .ok (.iconst 1, 1) := by decide +kernel
theorem dX3_tried_25 : decode cX3_tried 25 = .ok (.iload_n 1, 1) := by decide +kernel
theorem dX3_tried_26 : decode cX3_tried 26 = .ok (.ishl, 1) := by decide +kernel
theorem dX3_tried_27 : decode cX3_tried 27 = .ok (.ior, 1) := by decide +kernel
theorem dX3_tried_28 : decode cX3_tried 28 = .ok (.putfield 24, 3) := by decide +kernel
theorem dX3_tried_31 : decode cX3_tried 31 = .ok (.return_, 1) := by decide +kernel
theorem dX3_trueAndNew_0 : decode cX3_trueAndNew 0 = .ok (.aload_n 0, 1) := by decide +kernel
theorem dX3_trueAndNew_1 : decode cX3_trueAndNew 1 = .ok (.getfield 9, 3) := by decide +kernel
theorem dX3_trueAndNew_4 : decode cX3_trueAndNew 4 = .ok (.aload_n 0, 1) := by decide +kernel
theorem dX3_trueAndNew_5 : decode cX3_trueAndNew 5 = .ok (.getfield 15, 3) := by decide +kernel
theorem dX3_trueAndNew_8 : decode cX3_trueAndNew 8 = .ok (.iconst (-1), 1) := by decide +kernel
theorem dX3_trueAndNew_9 : decode cX3_trueAndNew 9 = .ok (.ixor, 1) := by decide +kernel
theorem dX3_trueAndNew_10 : decode cX3_trueAndNew 10 = .ok (.iand, 1) := by decide +kernel
theorem dX3_trueAndNew_11 : decode cX3_trueAndNew 11 = .ok (.ireturn, 1) := by decide +kernel
theorem dX3_possibleSets_0 : decode cX3_possibleSets 0 = .ok (.aload_n 0, 1) := by decide +kernel
theorem dX3_possibleSets_1 : decode cX3_possibleSets 1 = .ok (.getfield 21, 3) := by decide +kernel
theorem dX3_possibleSets_4 : decode cX3_possibleSets 4 = .ok (.aload_n 0, 1) := by decide +kernel
theorem dX3_possibleSets_5 : decode cX3_possibleSets 5 = .ok (.getfield 24, 3) := by decide +kernel
theorem dX3_possibleSets_8 : decode cX3_possibleSets 8 = .ok (.iand, 1) := by decide +kernel
theorem dX3_possibleSets_9 : decode cX3_possibleSets 9 = .ok (.ifCond .eq 5, 3) := by decide +kernel
theorem dX3_possibleSets_12 : decode cX3_possibleSets 12 = .ok (.iconst 0, 1) := by decide +kernel
theorem dX3_possibleSets_13 : decode cX3_possibleSets 13 = .ok (.ireturn, 1) := by decide +kernel
theorem dX3_possibleSets_14 : decode cX3_possibleSets 14 = .ok (.iconst 1, 1) := by decide +kernel
theorem dX3_possibleSets_15 : decode cX3_possibleSets 15 = .ok (.bipush 6, 2) := by decide +kernel
theorem dX3_possibleSets_17 : decode cX3_possibleSets 17 = .ok (.aload_n 0, 1) := by decide +kernel
theorem dX3_possibleSets_18 : decode cX3_possibleSets 18 = .ok (.getfield 21, 3) := by decide +kernel
theorem dX3_possibleSets_21 : decode cX3_possibleSets 21 = .ok (.aload_n 0, 1) := by decide +kernel
theorem dX3_possibleSets_22 : decode cX3_possibleSets 22 = .ok (.getfield 24, 3) := by decide +kernel
theorem dX3_possibleSets_25 : decode cX3_possibleSets 25 = .ok (.ior, 1) := by decide +kernel
theorem dX3_possibleSets_26 : decode cX3_possibleSets 26 = .ok (.invokestatic 27, 3) := by decide +kernel
theorem dX3_possibleSets_29 : decode cX3_possibleSets 29 = .ok (.isub, 1) := by decide +kernel
theorem dX3_possibleSets_30 : decode cX3_possibleSets 30 = .ok (.ishl, 1) := by decide +kernel
theorem dX3_possibleSets_31 : decode cX3_possibleSets 31 = .ok (.ireturn, 1) := by decide +kernel
theorem dX3_sayingToTry_0 : decode cX3_sayingToTry 0 = .ok (.aload_n 0, 1) := by decide +kernel
theorem dX3_sayingToTry_1 : decode cX3_sayingToTry 1 = .ok (.invokevirtual 33, 3) := by decide +kernel
theorem dX3_sayingToTry_4 : decode cX3_sayingToTry 4 = .ok (.ifCond .ne 5, 3) := by decide +kernel
theorem dX3_sayingToTry_7 : decode cX3_sayingToTry 7 = .ok (.iconst (-1), 1) := by decide +kernel
theorem dX3_sayingToTry_8 : decode cX3_sayingToTry 8 = .ok (.ireturn, 1) := by decide +kernel
theorem dX3_sayingToTry_9 : decode cX3_sayingToTry 9 = .ok (.aload_n 0, 1) := by decide +kernel
theorem dX3_sayingToTry_10 : decode cX3_sayingToTry 10 = .ok (.getfield 21, 3) := by decide +kernel
theorem dX3_sayingToTry_13 : decode cX3_sayingToTry 13 = .ok (.aload_n 0, 1) := by decide +kernel
theorem dX3_sayingToTry_14 : decode cX3_sayingToTry 14 = .ok (.getfield 24, 3) := by decide +kernel
theorem dX3_sayingToTry_17 : decode cX3_sayingToTry 17 = .ok (.ior, 1) := by decide +kernel
theorem dX3_sayingToTry_18 : decode cX3_sayingToTry 18 = .ok (.istore_n 1, 1) := by decide +kernel
theorem dX3_sayingToTry_19 : decode cX3_sayingToTry 19 = .ok (.iconst 0, 1) := by decide +kernel
theorem dX3_sayingToTry_20 : decode cX3_sayingToTry 20 = .ok (.istore_n 2, 1) := by decide +kernel
theorem dX3_sayingToTry_21 : decode cX3_sayingToTry 21 = .ok (.iload_n 2, 1) := by decide +kernel
theorem dX3_sayingToTry_22 : decode cX3_sayingToTry 22 = .ok (.bipush 6, 2) := by decide +kernel
theorem dX3_sayingToTry_24 : decode cX3_sayingToTry 24 = .ok (.if_icmp .ge 19, 3) := by decide +kernel
theorem dX3_sayingToTry_27 : decode cX3_sayingToTry 27 = .ok (.iload_n 1, 1) := by decide +kernel
theorem dX3_sayingToTry_28 : decode cX3_sayingToTry 28 = .ok (.iconst 1, 1) := by decide +kernel
theorem dX3_sayingToTry_29 : decode cX3_sayingToTry 29 = .ok (.iload_n 2, 1) := by decide +kernel
theorem dX3_sayingToTry_30 : decode cX3_sayingToTry 30 = .ok (.ishl, 1) := by decide +kernel
theorem dX3_sayingToTry_31 : decode cX3_sayingToTry 31 = .ok (.iand, 1) := by decide +kernel
theorem dX3_sayingToTry_32 : decode cX3_sayingToTry 32 = .ok (.ifCond .ne 5, 3) := by decide +kernel
theorem dX3_sayingToTry_35 : decode cX3_sayingToTry 35 = .ok (.iload_n 2, 1) := by decide +kernel
theorem dX3_sayingToTry_36 : decode cX3_sayingToTry 36 = .ok (.ireturn, 1) := by decide +kernel
theorem dX3_sayingToTry_37 : decode cX3_sayingToTry 37 = .ok (.iinc 2 1, 3) := by decide +kernel
theorem dX3_sayingToTry_40 : decode cX3_sayingToTry 40 = .ok (.goto (-19), 3) := by decide +kernel
theorem dX3_sayingToTry_43 : decode cX3_sayingToTry 43 = .ok (.iconst 0, 1) := by decide +kernel
theorem dX3_sayingToTry_44 : decode cX3_sayingToTry 44 = .ok (.ireturn, 1) := by decide +kernel
theorem dX4_init_0 : decode cX4_init 0 = .ok (.aload_n 0, 1) := by decide +kernel
theorem dX4_init_1 : decode cX4_init 1 = .ok (.invokespecial 3, 3) := by decide +kernel
theorem dX4_init_4 : decode cX4_init 4 = .ok (.aload_n 0, 1) := by decide +kernel
theorem dX4_init_5 : decode cX4_init 5 = .ok (.new 9, 3) := by decide +kernel
theorem dX4_init_8 : decode cX4_init 8 = .ok (.dup, 1) := by decide +kernel
theorem dX4_init_9 : decode cX4_init 9 = .ok (.invokespecial 11, 3) := by decide +kernel
theorem dX4_init_12 : decode cX4_init 12 = .ok (.putfield 12, 3) := by decide +kernel
theorem dX4_init_15 : decode cX4_init 15 = .ok (.return_, 1) := by decide +kernel
theorem dX4_run_0 : decode cX4_run 0 = .ok (.aload_n 0, 1) := by decide +kernel
theorem dX4_run_1 : decode cX4_run 1 = .ok (.getfield 12, 3) := by decide +kernel
theorem dX4_run_4 : decode cX4_run 4 = .ok (.aload_n 1, 1) := by decide +kernel
theorem dX4_run_5 : decode cX4_run 5 = .ok (.invokevirtual 18, 3) := by decide +kernel
theorem dX4_run_8 : decode cX4_run 8 = .ok (.aload_n 0, 1) := by decide +kernel
theorem dX4_run_9 : decode cX4_run 9 = .ok (.iload_n 3, 1) := by decide +kernel
theorem dX4_run_10 : decode cX4_run 10 = .ok (.putfield 22, 3) := by decide +kernel
theorem dX4_run_13 : decode cX4_run 13 = .ok (.aload_n 0, 1) := by decide +kernel
theorem dX4_run_14 : decode cX4_run 14 = .ok (.iconst 0, 1) := by decide +kernel
theorem dX4_run_15 : decode cX4_run 15 = .ok (.putfield 26, 3) := by decide +kernel
theorem dX4_run_18 : decode cX4_run 18 = .ok (.iconst 0, 1) := by decide +kernel
theorem dX4_run_19 : decode cX4_run 19 = .ok (.istore 4, 2) := by decide +kernel
theorem dX4_run_21 : decode cX4_run 21 = .ok (.iload 4, 2) := by decide +kernel
theorem dX4_run_23 : decode cX4_run 23 = .ok (.iload_n 2, 1) := by decide +kernel
theorem dX4_run_24 : decode cX4_run 24 = .ok (.if_icmp .ge 51, 3) := by decide +kernel
theorem dX4_run_27 : decode cX4_run 27 = .ok (.iconst 0, 1) := by decide +kernel
theorem dX4_run_28 : decode cX4_run 28 = .ok (.istore 5, 2) := by decide +kernel
theorem dX4_run_30 : decode cX4_run 30 = .ok (.iload 5, 2) := by decide +kernel
theorem dX4_run_32 : decode cX4_run 32 = .ok (.aload_n 0, 1) := by decide +kernel
theorem dX4_run_33 : decode cX4_run 33 = .ok (.getfield 12, 3) := by decide +kernel
theorem dX4_run_36 : decode cX4_run 36 = .ok (.getfield 29, 3) := by decide +kernel
theorem dX4_run_39 : decode cX4_run 39 = .ok (.if_icmp .ge 23, 3) := by decide +kernel
theorem dX4_run_42 : decode cX4_run 42 = .ok (.aload_n 0, 1) := by decide +kernel
theorem dX4_run_43 : decode cX4_run 43 = .ok (.aload_n 0, 1) := by decide +kernel
theorem dX4_run_44 : decode cX4_run 44 = .ok (.getfield 12, 3) := by decide +kernel
theorem dX4_run_47 : decode cX4_run 47 = .ok (.getfield 32, 3) := by decide +kernel
theorem dX4_run_50 : decode cX4_run 50 = .ok (.iload 5, 2) := by decide +kernel
theorem dX4_run_52 : decode cX4_run 52 = .ok (.aaload, 1) := by decide +kernel
theorem dX4_run_53 : decode cX4_run 53 = .ok (.invokevirtual 36, 3) := by decide +kernel
theorem dX4_run_56 : decode cX4_run 56 = .ok (.iinc 5 1, 3) := by decide +kernel
theorem dX4_run_59 : decode cX4_run 59 = .ok (.goto (-29), 3) := by decide +kernel
theorem dX4_run_62 : decode cX4_run 62 = .ok (.aload_n 0, 1) := by decide +kernel
theorem dX4_run_63 : decode cX4_run 63 = .ok (.getfield 12, 3) := by decide +kernel
theorem dX4_run_66 : decode cX4_run 66 = .ok (.invokevirtual 40, 3) := by decide +kernel
theorem dX4_run_69 : decode cX4_run 69 = .ok (.iinc 4 1, 3) := by decide +kernel
theorem dX4_run_72 : decode cX4_run 72 = .ok (.goto (-51), 3) := by decide +kernel
theorem dX4_run_75 : decode cX4_run 75 = .ok (.return_, 1) := by decide +kernel
theorem dX4_talk_0 : decode cX4_talk 0 = .ok (.aload_n 1, 1) := by decide +kernel
theorem dX4_talk_1 : decode cX4_talk 1 = .ok (.getfield 43, 3) := by decide +kernel
theorem dX4_talk_4 : decode cX4_talk 4 = .ok (.istore_n 2, 1) := by decide +kernel
theorem dX4_talk_5 : decode cX4_talk 5 = .ok (.iload_n 2, 1) := by decide +kernel
theorem dX4_talk_6 : decode cX4_talk 6 = .ok (.ifCond .le 51, 3) := by decide +kernel
theorem dX4_talk_9 : decode cX4_talk 9 = .ok (.aload_n 1, 1) := by decide +kernel
theorem dX4_talk_10 : decode cX4_talk 10 = .ok (.invokevirtual 48, 3) := by decide +kernel
theorem dX4_talk_13 : decode cX4_talk 13 = .ok (.ifCond .ne 44, 3) := by decide +kernel
theorem dX4_talk_16 : decode cX4_talk 16 = .ok (.aload_n 0, 1) := by decide +kernel
theorem dX4_talk_17 : decode cX4_talk 17 = .ok (.invokevirtual 52, 3) := by decide +kernel
theorem dX4_talk_20 : decode cX4_talk 20 = .ok (.istore_n 3, 1) := by decide +kernel
theorem dX4_talk_21 : decode cX4_talk 21 = .ok (.aload_n 1, 1) := by decide +kernel
theorem dX4_talk_22 : decode cX4_talk 22 = .ok (.iload_n 3, 1) := by decide +kernel
theorem dX4_talk_23 : decode cX4_talk 23 = .ok (.invokevirtual 56, 3) := by decide +kernel
theorem dX4_talk_26 : decode cX4_talk 26 = .ok (.ifCond .eq 25, 3) := by decide +kernel
theorem dX4_talk_29 : decode cX4_talk 29 = .ok (.aload_n 0, 1) := by decide +kernel
theorem dX4_talk_30 : decode cX4_talk 30 = .ok (.getfield 12, 3) := by decide +kernel
theorem dX4_talk_33 : decode cX4_talk 33 = .ok (.aload_n 1, 1) := by decide +kernel
theorem dX4_talk_34 : decode cX4_talk 34 = .ok (.iload_n 3, 1) := by decide +kernel
theorem dX4_talk_35 : decode cX4_talk 35 = .ok (.invokevirtual 60, 3) := by decide +kernel
theorem dX4_talk_38 : decode cX4_talk 38 = .ok (.ifCond .eq 13, 3) := by decide +kernel
theorem dX4_talk_41 : decode cX4_talk 41 = .ok (.aload_n 0, 1) := by decide +kernel
theorem dX4_talk_42 : decode cX4_talk 42 = .ok (.dup, 1) := by decide +kernel
theorem dX4_talk_43 : decode cX4_talk 43 = .ok (.getfield 26, 3) := by decide +kernel
theorem dX4_talk_46 : decode cX4_talk 46 = .ok (.iconst 1, 1) := by decide +kernel
theorem dX4_talk_47 : decode cX4_talk 47 = .ok (.iadd, 1) := by decide +kernel
theorem dX4_talk_48 : decode cX4_talk 48 = .ok (.putfield 26, 3) := by decide +kernel
theorem dX4_talk_51 : decode cX4_talk 51 = .ok (.iinc 2 (-1), 3) := by decide +kernel
theorem dX4_talk_54 : decode cX4_talk 54 = .ok (.goto (-49), 3) := by decide +kernel
theorem dX4_talk_57 : decode cX4_talk 57 = .ok (.return_, 1) := by decide +kernel
theorem dX4_draw_0 : decode cX4_draw 0 = .ok (.aload_n 0, 1) := by decide +kernel
theorem dX4_draw_1 : decode cX4_draw 1 = .ok (.ldc2_w 64, 3) := by decide +kernel
theorem dX4_draw_4 : decode cX4_draw 4 = .ok (.aload_n 0, 1) := by decide +kernel
theorem dX4_draw_5 : decode cX4_draw 5 = .ok (.getfield 22, 3) := by decide +kernel
theorem dX4_draw_8 : decode cX4_draw 8 = .ok (.i2l, 1) := by decide +kernel
theorem dX4_draw_9 : decode cX4_draw 9 = .ok (.lmul, 1) := by decide +kernel
theorem dX4_draw_10 : decode cX4_draw 10 = .ok (.ldc2_w 66, 3) := by decide +kernel
theorem dX4_draw_13 : decode cX4_draw 13 = .ok (.ladd, 1) := by decide +kernel
theorem dX4_draw_14 : decode cX4_draw 14 = .ok (.ldc2_w 68, 3) := by decide +kernel
theorem dX4_draw_17 : decode cX4_draw 17 = .ok (.land, 1) := by decide +kernel
theorem dX4_draw_18 : decode cX4_draw 18 = .ok (.l2i, 1) := by decide +kernel
theorem dX4_draw_19 : decode cX4_draw 19 = .ok (.putfield 22, 3) := by decide +kernel
theorem dX4_draw_22 : decode cX4_draw 22 = .ok (.aload_n 0, 1) := by decide +kernel
theorem dX4_draw_23 : decode cX4_draw 23 = .ok (.getfield 22, 3) := by decide +kernel
theorem dX4_draw_26 : decode cX4_draw 26 = .ok (.ldc 70, 2) := by decide +kernel
theorem dX4_draw_28 : decode cX4_draw 28 = .ok (.idiv, 1) := by decide +kernel
theorem dX4_draw_29 : decode cX4_draw 29 = .ok (.bipush 6, 2) := by decide +kernel
theorem dX4_draw_31 : decode cX4_draw 31 = .ok (.irem, 1) := by decide +kernel
theorem dX4_draw_32 : decode cX4_draw 32 = .ok (.ireturn, 1) := by decide +kernel
theorem dX5_init_0 : decode cX5_init 0 = .ok (.aload_n 0, 1) := by decide +kernel
theorem dX5_init_1 : decode cX5_init 1 = .ok (.invokespecial 1, 3) := by decide +kernel
theorem dX5_init_4 : decode cX5_init 4 = .ok (.aload_n 0, 1) := by decide +kernel
theorem dX5_init_5 : decode cX5_init 5 = .ok (.bipush 12, 2) := by decide +kernel
theorem dX5_init_7 : decode cX5_init 7 = .ok (.newarray .char, 2) := by decide +kernel
theorem dX5_init_9 : decode cX5_init 9 = .ok (.putfield 9, 3) := by decide +kernel
theorem dX5_init_12 : decode cX5_init 12 = .ok (.aload_n 0, 1) := by decide +kernel
theorem dX5_init_13 : decode cX5_init 13 = .ok (.new 13, 3) := by decide +kernel
theorem dX5_init_16 : decode cX5_init 16 = .ok (.dup, 1) := by decide +kernel
theorem dX5_init_17 : decode cX5_init 17 = .ok (.invokespecial 15, 3) := by decide +kernel
theorem dX5_init_20 : decode cX5_init 20 = .ok (.putfield 16, 3) := by decide +kernel
theorem dX5_init_23 : decode cX5_init 23 = .ok (.aload_n 0, 1) := by decide +kernel
theorem dX5_init_24 : decode cX5_init 24 = .ok (.new 13, 3) := by decide +kernel
theorem dX5_init_27 : decode cX5_init 27 = .ok (.dup, 1) := by decide +kernel
theorem dX5_init_28 : decode cX5_init 28 = .ok (.invokespecial 15, 3) := by decide +kernel
theorem dX5_init_31 : decode cX5_init 31 = .ok (.putfield 20, 3) := by decide +kernel
theorem dX5_init_34 : decode cX5_init 34 = .ok (.aload_n 0, 1) := by decide +kernel
theorem dX5_init_35 : decode cX5_init 35 = .ok (.new 23, 3) := by decide +kernel
theorem dX5_init_38 : decode cX5_init 38 = .ok (.dup, 1) := by decide +kernel
theorem dX5_init_39 : decode cX5_init 39 = .ok (.invokespecial 25, 3) := by decide +kernel
theorem dX5_init_42 : decode cX5_init 42 = .ok (.putfield 26, 3) := by decide +kernel
theorem dX5_init_45 : decode cX5_init 45 = .ok (.aload_n 0, 1) := by decide +kernel
theorem dX5_init_46 : decode cX5_init 46 = .ok (.new 30, 3) := by decide +kernel
theorem dX5_init_49 : decode cX5_init 49 = .ok (.dup, 1) := by decide +kernel
theorem dX5_init_50 : decode cX5_init 50 = .ok (.invokespecial 32, 3) := by decide +kernel
theorem dX5_init_53 : decode cX5_init 53 = .ok (.putfield 33, 3) := by decide +kernel
theorem dX5_init_56 : decode cX5_init 56 = .ok (.return_, 1) := by decide +kernel
theorem dX5_letter_0 : decode cX5_letter 0 = .ok (.iload_n 1, 1) := by decide +kernel
theorem dX5_letter_1 : decode cX5_letter 1 = .ok (.iconst 1, 1) := by decide +kernel
theorem dX5_letter_2 : decode cX5_letter 2 = .ok (.if_icmp .lt 9, 3) := by decide +kernel
theorem dX5_letter_5 : decode cX5_letter 5 = .ok (.iload_n 1, 1) := by decide +kernel
theorem dX5_letter_6 : decode cX5_letter 6 = .ok (.bipush 126, 2) := by decide +kernel
theorem dX5_letter_8 : decode cX5_letter 8 = .ok (.if_icmp .le 6, 3) := by decide +kernel
theorem dX5_letter_11 : decode cX5_letter 11 = .ok (.bipush (-102), 2) := by decide +kernel
theorem dX5_letter_13 : decode cX5_letter 13 = .ok (.ireturn, 1) := by decide +kernel
theorem dX5_letter_14 : decode cX5_letter 14 = .ok (.aload_n 0, 1) := by decide +kernel
theorem dX5_letter_15 : decode cX5_letter 15 = .ok (.getfield 37, 3) := by decide +kernel
theorem dX5_letter_18 : decode cX5_letter 18 = .ok (.bipush 12, 2) := by decide +kernel
theorem dX5_letter_20 : decode cX5_letter 20 = .ok (.if_icmp .lt 6, 3) := by decide +kernel
theorem dX5_letter_23 : decode cX5_letter 23 = .ok (.bipush (-104), 2) := by decide +kernel
theorem dX5_letter_25 : decode cX5_letter 25 = .ok (.ireturn, 1) := by decide +kernel
theorem dX5_letter_26 : decode cX5_letter 26 = .ok (.aload_n 0, 1) := by decide +kernel
theorem dX5_letter_27 : decode cX5_letter 27 = .ok (.getfield 9, 3) := by decide +kernel
theorem dX5_letter_30 : decode cX5_letter 30 = .ok (.aload_n 0, 1) := by decide +kernel
theorem dX5_letter_31 : decode cX5_letter 31 = .ok (.getfield 37, 3) := by decide +kernel
theorem dX5_letter_34 : decode cX5_letter 34 = .ok (.iload_n 1, 1) := by decide +kernel
theorem dX5_letter_35 : decode cX5_letter 35 = .ok (.i2c, 1) := by decide +kernel
theorem dX5_letter_36 : decode cX5_letter 36 = .ok (.castore, 1) := by decide +kernel
theorem dX5_letter_37 : decode cX5_letter 37 = .ok (.aload_n 0, 1) := by decide +kernel
theorem dX5_letter_38 : decode cX5_letter 38 = .ok (.dup, 1) := by decide +kernel
theorem dX5_letter_39 : decode cX5_letter 39 = .ok (.getfield 37, 3) := by decide +kernel
theorem dX5_letter_42 : decode cX5_letter 42 = .ok (.iconst 1, 1) := by decide +kernel
theorem dX5_letter_43 : decode cX5_letter 43 = .ok (.iadd, 1) := by decide +kernel
theorem dX5_letter_44 : decode cX5_letter 44 = .ok (.putfield 37, 3) := by decide +kernel
theorem dX5_letter_47 : decode cX5_letter 47 = .ok (.aload_n 0, 1) := by decide +kernel
theorem dX5_letter_48 : decode cX5_letter 48 = .ok (.getfield 37, 3) := by decide +kernel
theorem dX5_letter_51 : decode cX5_letter 51 = .ok (.ireturn, 1) := by decide +kernel
theorem dX5_blank_0 : decode cX5_blank 0 = .ok (.aload_n 0, 1) := by decide +kernel
theorem dX5_blank_1 : decode cX5_blank 1 = .ok (.getfield 37, 3) := by decide +kernel
theorem dX5_blank_4 : decode cX5_blank 4 = .ok (.istore_n 1, 1) := by decide +kernel
theorem dX5_blank_5 : decode cX5_blank 5 = .ok (.aload_n 0, 1) := by decide +kernel
theorem dX5_blank_6 : decode cX5_blank 6 = .ok (.iconst 0, 1) := by decide +kernel
theorem dX5_blank_7 : decode cX5_blank 7 = .ok (.putfield 37, 3) := by decide +kernel
theorem dX5_blank_10 : decode cX5_blank 10 = .ok (.iload_n 1, 1) := by decide +kernel
theorem dX5_blank_11 : decode cX5_blank 11 = .ok (.ireturn, 1) := by decide +kernel
theorem dX5_fault_0 : decode cX5_fault 0 = .ok (.iconst 0, 1) := by decide +kernel
theorem dX5_fault_1 : decode cX5_fault 1 = .ok (.istore_n 1, 1) := by decide +kernel
theorem dX5_fault_2 : decode cX5_fault 2 = .ok (.iload_n 1, 1) := by decide +kernel
theorem dX5_fault_3 : decode cX5_fault 3 = .ok (.aload_n 0, 1) := by decide +kernel
theorem dX5_fault_4 : decode cX5_fault 4 = .ok (.getfield 37, 3) := by decide +kernel
theorem dX5_fault_7 : decode cX5_fault 7 = .ok (.if_icmp .ge 24, 3) := by decide +kernel
theorem dX5_fault_10 : decode cX5_fault 10 = .ok (.iload_n 1, 1) := by decide +kernel
theorem dX5_fault_11 : decode cX5_fault 11 = .ok (.aload_n 0, 1) := by decide +kernel
theorem dX5_fault_12 : decode cX5_fault 12 = .ok (.getfield 9, 3) := by decide +kernel
theorem dX5_fault_15 : decode cX5_fault 15 = .ok (.iload_n 1, 1) := by decide +kernel
theorem dX5_fault_16 : decode cX5_fault 16 = .ok (.caload, 1) := by decide +kernel
theorem dX5_fault_17 : decode cX5_fault 17 = .ok (.invokestatic 41, 3) := by decide +kernel
theorem dX5_fault_20 : decode cX5_fault 20 = .ok (.ifCond .ne 5, 3) := by decide +kernel
theorem dX5_fault_23 : decode cX5_fault 23 = .ok (.iload_n 1, 1) := by decide +kernel
theorem dX5_fault_24 : decode cX5_fault 24 = .ok (.ireturn, 1) := by decide +kernel
theorem dX5_fault_25 : decode cX5_fault 25 = .ok (.iinc 1 1, 3) := by decide +kernel
theorem dX5_fault_28 : decode cX5_fault 28 = .ok (.goto (-26), 3) := by decide +kernel
theorem dX5_fault_31 : decode cX5_fault 31 = .ok (.aload_n 0, 1) := by decide +kernel
theorem dX5_fault_32 : decode cX5_fault 32 = .ok (.getfield 37, 3) := by decide +kernel
theorem dX5_fault_35 : decode cX5_fault 35 = .ok (.ireturn, 1) := by decide +kernel
theorem dX5_town_0 : decode cX5_town 0 = .ok (.aload_n 0, 1) := by decide +kernel
theorem dX5_town_1 : decode cX5_town 1 = .ok (.getfield 37, 3) := by decide +kernel
theorem dX5_town_4 : decode cX5_town 4 = .ok (.ldc 45, 2) := by decide +kernel
theorem dX5_town_6 : decode cX5_town 6 = .ok (.invokevirtual 47, 3) := by decide +kernel
theorem dX5_town_9 : decode cX5_town 9 = .ok (.if_icmp .ne 14, 3) := by decide +kernel
theorem dX5_town_12 : decode cX5_town 12 = .ok (.aload_n 0, 1) := by decide +kernel
theorem dX5_town_13 : decode cX5_town 13 = .ok (.invokevirtual 53, 3) := by decide +kernel
theorem dX5_town_16 : decode cX5_town 16 = .ok (.aload_n 0, 1) := by decide +kernel
theorem dX5_town_17 : decode cX5_town 17 = .ok (.getfield 37, 3) := by decide +kernel
theorem dX5_town_20 : decode cX5_town 20 = .ok (.if_icmp .eq 6, 3) := by decide +kernel
theorem dX5_town_23 : decode cX5_town 23 = .ok (.bipush (-103), 2) := by decide +kernel
theorem dX5_town_25 : decode cX5_town 25 = .ok (.ireturn, 1) := by decide +kernel
theorem dX5_town_26 : decode cX5_town 26 = .ok (.aload_n 0, 1) := by decide +kernel
theorem dX5_town_27 : decode cX5_town 27 = .ok (.getfield 16, 3) := by decide +kernel
theorem dX5_town_30 : decode cX5_town 30 = .ok (.invokevirtual 56, 3) := by decide +kernel
theorem dX5_town_33 : decode cX5_town 33 = .ok (.iconst 0, 1) := by decide +kernel
theorem dX5_town_34 : decode cX5_town 34 = .ok (.istore_n 1, 1) := by decide +kernel
theorem dX5_town_35 : decode cX5_town 35 = .ok (.iload_n 1, 1) := by decide +kernel
theorem dX5_town_36 : decode cX5_town 36 = .ok (.iconst 3, 1) := by decide +kernel
theorem dX5_town_37 : decode cX5_town 37 = .ok (.if_icmp .ge 41, 3) := by decide +kernel
theorem dX5_town_40 : decode cX5_town 40 = .ok (.iconst 3, 1) := by decide +kernel
theorem dX5_town_41 : decode cX5_town 41 = .ok (.iload_n 1, 1) := by decide +kernel
theorem dX5_town_42 : decode cX5_town 42 = .ok (.imul, 1) := by decide +kernel
theorem dX5_town_43 : decode cX5_town 43 = .ok (.istore_n 2, 1) := by decide +kernel
theorem dX5_town_44 : decode cX5_town 44 = .ok (.aload_n 0, 1) := by decide +kernel
theorem dX5_town_45 : decode cX5_town 45 = .ok (.getfield 16, 3) := by decide +kernel
theorem dX5_town_48 : decode cX5_town 48 = .ok (.getfield 59, 3) := by decide +kernel
theorem dX5_town_51 : decode cX5_town 51 = .ok (.iload_n 1, 1) := by decide +kernel
theorem dX5_town_52 : decode cX5_town 52 = .ok (.aaload, 1) := by decide +kernel
theorem dX5_town_53 : decode cX5_town 53 = .ok (.bipush 8, 2) := by decide +kernel
theorem dX5_town_55 : decode cX5_town 55 = .ok (.aload_n 0, 1) := by decide +kernel
theorem dX5_town_56 : decode cX5_town 56 = .ok (.iload_n 2, 1) := by decide +kernel
theorem dX5_town_57 : decode cX5_town 57 = .ok (.invokevirtual 63, 3) := by decide +kernel
theorem dX5_town_60 : decode cX5_town 60 = .ok (.imul, 1) := by decide +kernel
theorem dX5_town_61 : decode cX5_town 61 = .ok (.aload_n 0, 1) := by decide +kernel
theorem dX5_town_62 : decode cX5_town 62 = .ok (.iload_n 2, 1) := by decide +kernel
theorem dX5_town_63 : decode cX5_town 63 = .ok (.iconst 1, 1) := by decide +kernel
theorem dX5_town_64 : decode cX5_town 64 = .ok (.iadd, 1) := by decide +kernel
theorem dX5_town_65 : decode cX5_town 65 = .ok (.invokevirtual 63, 3) := by decide +kernel
theorem dX5_town_68 : decode cX5_town 68 = .ok (.iadd, 1) := by decide +kernel
theorem dX5_town_69 : decode cX5_town 69 = .ok (.putfield 67, 3) := by decide +kernel
theorem dX5_town_72 : decode cX5_town 72 = .ok (.iinc 1 1, 3) := by decide +kernel
theorem dX5_town_75 : decode cX5_town 75 = .ok (.goto (-40), 3) := by decide +kernel
theorem dX5_town_78 : decode cX5_town 78 = .ok (.aload_n 0, 1) := by decide +kernel
theorem dX5_town_79 : decode cX5_town 79 = .ok (.getfield 16, 3) := by decide +kernel
theorem dX5_town_82 : decode cX5_town 82 = .ok (.aload_n 0, 1) := by decide +kernel
theorem dX5_town_83 : decode cX5_town 83 = .ok (.bipush 9, 2) := by decide +kernel
theorem dX5_town_85 : decode cX5_town 85 = .ok (.invokevirtual 63, 3) := by decide +kernel
theorem dX5_town_88 : decode cX5_town 88 = .ok (.putfield 72, 3) := by decide +kernel
theorem dX5_town_91 : decode cX5_town 91 = .ok (.aload_n 0, 1) := by decide +kernel
theorem dX5_town_92 : decode cX5_town 92 = .ok (.iconst 0, 1) := by decide +kernel
theorem dX5_town_93 : decode cX5_town 93 = .ok (.putfield 37, 3) := by decide +kernel
theorem dX5_town_96 : decode cX5_town 96 = .ok (.aload_n 0, 1) := by decide +kernel
theorem dX5_town_97 : decode cX5_town 97 = .ok (.iconst 1, 1) := by decide +kernel
theorem dX5_town_98 : decode cX5_town 98 = .ok (.putfield 75, 3) := by decide +kernel
theorem dX5_town_101 : decode cX5_town 101 = .ok (.aload_n 0, 1) := by decide +kernel
theorem dX5_town_102 : decode cX5_town 102 = .ok (.iconst 0, 1) := by decide +kernel
theorem dX5_town_103 : decode cX5_town 103 = .ok (.putfield 79, 3) := by decide +kernel
theorem dX5_town_106 : decode cX5_town 106 = .ok (.aload_n 0, 1) := by decide +kernel
theorem dX5_town_107 : decode cX5_town 107 = .ok (.dup, 1) := by decide +kernel
theorem dX5_town_108 : decode cX5_town 108 = .ok (.getfield 82, 3) := by decide +kernel
theorem dX5_town_111 : decode cX5_town 111 = .ok (.iconst 1, 1) := by decide +kernel
theorem dX5_town_112 : decode cX5_town 112 = .ok (.iadd, 1) := by decide +kernel
theorem dX5_town_113 : decode cX5_town 113 = .ok (.putfield 82, 3) := by decide +kernel
theorem dX5_town_116 : decode cX5_town 116 = .ok (.aload_n 0, 1) := by decide +kernel
theorem dX5_town_117 : decode cX5_town 117 = .ok (.getfield 16, 3) := by decide +kernel
theorem dX5_town_120 : decode cX5_town 120 = .ok (.invokevirtual 85, 3) := by decide +kernel
theorem dX5_town_123 : decode cX5_town 123 = .ok (.ireturn, 1) := by decide +kernel
theorem dX5_victim_0 : decode cX5_victim 0 = .ok (.aload_n 0, 1) := by decide +kernel
theorem dX5_victim_1 : decode cX5_victim 1 = .ok (.iload_n 1, 1) := by decide +kernel
theorem dX5_victim_2 : decode cX5_victim 2 = .ok (.invokevirtual 88, 3) := by decide +kernel
theorem dX5_victim_5 : decode cX5_victim 5 = .ok (.ifCond .ne 6, 3) := by decide +kernel
theorem dX5_victim_8 : decode cX5_victim 8 = .ok (.bipush (-101), 2) := by decide +kernel
theorem dX5_victim_10 : decode cX5_victim 10 = .ok (.ireturn, 1) := by decide +kernel
theorem dX5_victim_11 : decode cX5_victim 11 = .ok (.iload_n 2, 1) := by decide +kernel
theorem dX5_victim_12 : decode cX5_victim 12 = .ok (.ifCond .lt 8, 3) := by decide +kernel
theorem dX5_victim_15 : decode cX5_victim 15 = .ok (.iload_n 2, 1) := by decide +kernel
theorem dX5_victim_16 : decode cX5_victim 16 = .ok (.iconst 3, 1) := by decide +kernel
theorem dX5_victim_17 : decode cX5_victim 17 = .ok (.if_icmp .le 6, 3) := by decide +kernel
theorem dX5_victim_20 : decode cX5_victim 20 = .ok (.bipush (-102), 2) := by decide +kernel
theorem dX5_victim_22 : decode cX5_victim 22 = .ok (.ireturn, 1) := by decide +kernel
theorem dX5_victim_23 : decode cX5_victim 23 = .ok (.iload_n 2, 1) := by decide +kernel
theorem dX5_victim_24 : decode cX5_victim 24 = .ok (.tableswitch 63 0 2 #[28, 41, 54], 28) := by decide +kernel
theorem dX5_victim_52 : decode cX5_victim 52 = .ok (.aload_n 0, 1) := by decide +kernel
theorem dX5_victim_53 : decode cX5_victim 53 = .ok (.getfield 16, 3) := by decide +kernel
theorem dX5_victim_56 : decode cX5_victim 56 = .ok (.getfield 59, 3) := by decide +kernel
theorem dX5_victim_59 : decode cX5_victim 59 = .ok (.iload_n 1, 1) := by decide +kernel
theorem dX5_victim_60 : decode cX5_victim 60 = .ok (.aaload, 1) := by decide +kernel
theorem dX5_victim_61 : decode cX5_victim 61 = .ok (.getfield 67, 3) := by decide +kernel
theorem dX5_victim_64 : decode cX5_victim 64 = .ok (.ireturn, 1) := by decide +kernel
theorem dX5_victim_65 : decode cX5_victim 65 = .ok (.aload_n 0, 1) := by decide +kernel
theorem dX5_victim_66 : decode cX5_victim 66 = .ok (.getfield 16, 3) := by decide +kernel
theorem dX5_victim_69 : decode cX5_victim 69 = .ok (.getfield 59, 3) := by decide +kernel
theorem dX5_victim_72 : decode cX5_victim 72 = .ok (.iload_n 1, 1) := by decide +kernel
theorem dX5_victim_73 : decode cX5_victim 73 = .ok (.aaload, 1) := by decide +kernel
theorem dX5_victim_74 : decode cX5_victim 74 = .ok (.getfield 92, 3) := by decide +kernel
theorem dX5_victim_77 : decode cX5_victim 77 = .ok (.ireturn, 1) := by decide +kernel
theorem dX5_victim_78 : decode cX5_victim 78 = .ok (.aload_n 0, 1) := by decide +kernel
theorem dX5_victim_79 : decode cX5_victim 79 = .ok (.getfield 16, 3) := by decide +kernel
theorem dX5_victim_82 : decode cX5_victim 82 = .ok (.iload_n 1, 1) := by decide +kernel
theorem dX5_victim_83 : decode cX5_victim 83 = .ok (.invokevirtual 95, 3) := by decide +kernel
theorem dX5_victim_86 : decode cX5_victim 86 = .ok (.ireturn, 1) := by decide +kernel
theorem dX5_victim_87 : decode cX5_victim 87 = .ok (.aload_n 0, 1) := by decide +kernel
theorem dX5_victim_88 : decode cX5_victim 88 = .ok (.getfield 16, 3) := by decide +kernel
theorem dX5_victim_91 : decode cX5_victim 91 = .ok (.aload_n 0, 1) := by decide +kernel
theorem dX5_victim_92 : decode cX5_victim 92 = .ok (.getfield 16, 3) := by decide +kernel
theorem dX5_victim_95 : decode cX5_victim 95 = .ok (.iload_n 1, 1) := by decide +kernel
theorem dX5_victim_96 : decode cX5_victim 96 = .ok (.invokevirtual 95, 3) := by decide +kernel
theorem dX5_victim_99 : decode cX5_victim 99 = .ok (.invokevirtual 98, 3) := by decide +kernel
theorem dX5_victim_102 : decode cX5_victim 102 = .ok (.ireturn, 1) := by decide +kernel
theorem dX5_convict_0 : decode cX5_convict 0 = .ok (.iload_n 1, 1) := by decide +kernel
theorem dX5_convict_1 : decode cX5_convict 1 = .ok (.invokestatic 101, 3) := by decide +kernel
theorem dX5_convict_4 : decode cX5_convict 4 = .ok (.ifCond .eq 26, 3) := by decide +kernel
theorem dX5_convict_7 : decode cX5_convict 7 = .ok (.iload_n 3, 1) := by decide +kernel
theorem dX5_convict_8 : decode cX5_convict 8 = .ok (.iconst 1, 1) := by decide +kernel
theorem dX5_convict_9 : decode cX5_convict 9 = .ok (.if_icmp .lt 21, 3) := by decide +kernel
theorem dX5_convict_12 : decode cX5_convict 12 = .ok (.iload_n 3, 1) := by decide +kernel
theorem dX5_convict_13 : decode cX5_convict 13 = .ok (.bipush 9, 2) := by decide +kernel
theorem dX5_convict_15 : decode cX5_convict 15 = .ok (.if_icmp .gt 15, 3) := by decide +kernel
theorem dX5_convict_18 : decode cX5_convict 18 = .ok (.iload 4, 2) := by decide +kernel
