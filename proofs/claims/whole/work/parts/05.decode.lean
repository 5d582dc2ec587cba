theorem dX0_init_0 : decode cX0_init 0 = .ok (.aload_n 0, 1) := by decide +kernel
theorem dX0_init_1 : decode cX0_init 1 = .ok (.invokespecial 1, 3) := by decide +kernel
theorem dX0_init_4 : decode cX0_init 4 = .ok (.return_, 1) := by decide +kernel
theorem dX0_tells_0 : decode cX0_tells 0 = .ok (.iconst 0, 1) := by decide +kernel
theorem dX0_tells_1 : decode cX0_tells 1 = .ok (.aload_n 0, 1) := by decide +kernel
theorem dX0_tells_2 : decode cX0_tells 2 = .ok (.iload_n 1, 1) := by decide +kernel
theorem dX0_tells_3 : decode cX0_tells 3 = .ok (.iload_n 2, 1) := by decide +kernel
theorem dX0_tells_4 : decode cX0_tells 4 = .ok (.iload_n 3, 1) := by decide +kernel
theorem dX0_tells_5 : decode cX0_tells 5 = .ok (.invokespecial 7, 3) := by decide +kernel
theorem dX0_tells_8 : decode cX0_tells 8 = .ok (.iconst 1, 1) := by decide +kernel
theorem dX0_tells_9 : decode cX0_tells 9 = .ok (.isub, 1) := by decide +kernel
theorem dX0_tells_10 : decode cX0_tells 10 = .ok (.invokestatic 11, 3) := by decide +kernel
theorem dX0_tells_13 : decode cX0_tells 13 = .ok (.ireturn, 1) := by decide +kernel
theorem dX0_lessons_0 : decode cX0_lessons 0 = .ok (.iconst 3, 1) := by decide +kernel
theorem dX0_lessons_1 : decode cX0_lessons 1 = .ok (.ireturn, 1) := by decide +kernel
theorem dX0_price_0 : decode cX0_price 0 = .ok (.iconst 0, 1) := by decide +kernel
theorem dX0_price_1 : decode cX0_price 1 = .ok (.ireturn, 1) := by decide +kernel
theorem dX0_fail_0 : decode cX0_fail 0 = .ok (.iload_n 1, 1) := by decide +kernel
theorem dX0_fail_1 : decode cX0_fail 1 = .ok (.ifCond .eq 11, 3) := by decide +kernel
theorem dX0_fail_4 : decode cX0_fail 4 = .ok (.new 17, 3) := by decide +kernel
theorem dX0_fail_7 : decode cX0_fail 7 = .ok (.dup, 1) := by decide +kernel
theorem dX0_fail_8 : decode cX0_fail 8 = .ok (.invokespecial 19, 3) := by decide +kernel
theorem dX0_fail_11 : decode cX0_fail 11 = .ok (.athrow, 1) := by decide +kernel
theorem dX0_fail_12 : decode cX0_fail 12 = .ok (.return_, 1) := by decide +kernel
theorem dX1_init_0 : decode cX1_init 0 = .ok (.aload_n 0, 1) := by decide +kernel
theorem dX1_init_1 : decode cX1_init 1 = .ok (.invokespecial 1, 3) := by decide +kernel
theorem dX1_init_4 : decode cX1_init 4 = .ok (.return_, 1) := by decide +kernel
theorem dX1_tells_0 : decode cX1_tells 0 = .ok (.iload_n 2, 1) := by decide +kernel
theorem dX1_tells_1 : decode cX1_tells 1 = .ok (.ifCond .ne 7, 3) := by decide +kernel
theorem dX1_tells_4 : decode cX1_tells 4 = .ok (.iconst 0, 1) := by decide +kernel
theorem dX1_tells_5 : decode cX1_tells 5 = .ok (.goto 12, 3) := by decide +kernel
theorem dX1_tells_8 : decode cX1_tells 8 = .ok (.aload_n 0, 1) := by decide +kernel
theorem dX1_tells_9 : decode cX1_tells 9 = .ok (.iload_n 1, 1) := by decide +kernel
theorem dX1_tells_10 : decode cX1_tells 10 = .ok (.iload_n 2, 1) := by decide +kernel
theorem dX1_tells_11 : decode cX1_tells 11 = .ok (.iload_n 3, 1) := by decide +kernel
theorem dX1_tells_12 : decode cX1_tells 12 = .ok (.invokespecial 7, 3) := by decide +kernel
theorem dX1_tells_15 : decode cX1_tells 15 = .ok (.iconst 2, 1) := by decide +kernel
theorem dX1_tells_16 : decode cX1_tells 16 = .ok (.iadd, 1) := by decide +kernel
theorem dX1_tells_17 : decode cX1_tells 17 = .ok (.ireturn, 1) := by decide +kernel
theorem dX1_price_0 : decode cX1_price 0 = .ok (.aload_n 0, 1) := by decide +kernel
theorem dX1_price_1 : decode cX1_price 1 = .ok (.iload_n 1, 1) := by decide +kernel
theorem dX1_price_2 : decode cX1_price 2 = .ok (.invokespecial 11, 3) := by decide +kernel
theorem dX1_price_5 : decode cX1_price 5 = .ok (.bipush 6, 2) := by decide +kernel
theorem dX1_price_7 : decode cX1_price 7 = .ok (.iadd, 1) := by decide +kernel
theorem dX1_price_8 : decode cX1_price 8 = .ok (.ireturn, 1) := by decide +kernel
theorem dX2_init_0 : decode cX2_init 0 = .ok (.aload_n 0, 1) := by decide +kernel
theorem dX2_init_1 : decode cX2_init 1 = .ok (.invokespecial 3, 3) := by decide +kernel
theorem dX2_init_4 : decode cX2_init 4 = .ok (.return_, 1) := by decide +kernel
theorem dX2_tells_0 : decode cX2_tells 0 = .ok (.iload_n 2, 1) := by decide +kernel
theorem dX2_tells_1 : decode cX2_tells 1 = .ok (.invokestatic 9, 3) := by decide +kernel
theorem dX2_tells_4 : decode cX2_tells 4 = .ok (.iload_n 3, 1) := by decide +kernel
theorem dX2_tells_5 : decode cX2_tells 5 = .ok (.invokestatic 9, 3) := by decide +kernel
theorem dX2_tells_8 : decode cX2_tells 8 = .ok (.iconst 2, 1) := by decide +kernel
theorem dX2_tells_9 : decode cX2_tells 9 = .ok (.idiv, 1) := by decide +kernel
theorem dX2_tells_10 : decode cX2_tells 10 = .ok (.iadd, 1) := by decide +kernel
theorem dX2_tells_11 : decode cX2_tells 11 = .ok (.ireturn, 1) := by decide +kernel
theorem dX2_lessons_0 : decode cX2_lessons 0 = .ok (.aload_n 0, 1) := by decide +kernel
theorem dX2_lessons_1 : decode cX2_lessons 1 = .ok (.iload_n 1, 1) := by decide +kernel
theorem dX2_lessons_2 : decode cX2_lessons 2 = .ok (.iload_n 2, 1) := by decide +kernel
theorem dX2_lessons_3 : decode cX2_lessons 3 = .ok (.iload_n 3, 1) := by decide +kernel
theorem dX2_lessons_4 : decode cX2_lessons 4 = .ok (.invokespecial 15, 3) := by decide +kernel
theorem dX2_lessons_7 : decode cX2_lessons 7 = .ok (.iconst 1, 1) := by decide +kernel
theorem dX2_lessons_8 : decode cX2_lessons 8 = .ok (.iadd, 1) := by decide +kernel
theorem dX2_lessons_9 : decode cX2_lessons 9 = .ok (.ireturn, 1) := by decide +kernel
theorem dX2_nextFact_0 : decode cX2_nextFact 0 = .ok (.aload_n 0, 1) := by decide +kernel
theorem dX2_nextFact_1 : decode cX2_nextFact 1 = .ok (.sipush 4095, 3) := by decide +kernel
theorem dX2_nextFact_4 : decode cX2_nextFact 4 = .ok (.iload_n 2, 1) := by decide +kernel
theorem dX2_nextFact_5 : decode cX2_nextFact 5 = .ok (.invokespecial 19, 3) := by decide +kernel
theorem dX2_nextFact_8 : decode cX2_nextFact 8 = .ok (.ireturn, 1) := by decide +kernel
theorem dX2_price_0 : decode cX2_price 0 = .ok (.aload_n 0, 1) := by decide +kernel
theorem dX2_price_1 : decode cX2_price 1 = .ok (.iload_n 1, 1) := by decide +kernel
theorem dX2_price_2 : decode cX2_price 2 = .ok (.invokespecial 23, 3) := by decide +kernel
theorem dX2_price_5 : decode cX2_price 5 = .ok (.iload_n 1, 1) := by decide +kernel
theorem dX2_price_6 : decode cX2_price 6 = .ok (.iadd, 1) := by decide +kernel
theorem dX2_price_7 : decode cX2_price 7 = .ok (.ireturn, 1) := by decide +kernel
theorem dX2_fail_0 : decode cX2_fail 0 = .ok (.iload_n 1, 1) := by decide +kernel
theorem dX2_fail_1 : decode cX2_fail 1 = .ok (.ifCond .eq 11, 3) := by decide +kernel
theorem dX2_fail_4 : decode cX2_fail 4 = .ok (.new 26, 3) := by decide +kernel
theorem dX2_fail_7 : decode cX2_fail 7 = .ok (.dup, 1) := by decide +kernel
theorem dX2_fail_8 : decode cX2_fail 8 = .ok (.invokespecial 28, 3) := by decide +kernel
theorem dX2_fail_11 : decode cX2_fail 11 = .ok (.athrow, 1) := by decide +kernel
theorem dX2_fail_12 : decode cX2_fail 12 = .ok (.return_, 1) := by decide +kernel
theorem dX3_init_0 : decode cX3_init 0 = .ok (.aload_n 0, 1) := by decide +kernel
theorem dX3_init_1 : decode cX3_init 1 = .ok (.invokespecial 1, 3) := by decide +kernel
theorem dX3_init_4 : decode cX3_init 4 = .ok (.return_, 1) := by decide +kernel
theorem dX3_tells_0 : decode cX3_tells 0 = .ok (.iload_n 2, 1) := by decide +kernel
theorem dX3_tells_1 : decode cX3_tells 1 = .ok (.invokestatic 7, 3) := by decide +kernel
theorem dX3_tells_4 : decode cX3_tells 4 = .ok (.ireturn, 1) := by decide +kernel
theorem dX3_lessons_0 : decode cX3_lessons 0 = .ok (.iconst 1, 1) := by decide +kernel
theorem dX3_lessons_1 : decode cX3_lessons 1 = .ok (.ireturn, 1) := by decide +kernel
theorem dX3_nextFact_0 : decode cX3_nextFact 0 = .ok (.iload_n 1, 1) := by decide +kernel
theorem dX3_nextFact_1 : decode cX3_nextFact 1 = .ok (.iload_n 2, 1) := by decide +kernel
theorem dX3_nextFact_2 : decode cX3_nextFact 2 = .ok (.iconst (-1), 1) := by decide +kernel
theorem dX3_nextFact_3 : decode cX3_nextFact 3 = .ok (.ixor, 1) := by decide +kernel
theorem dX3_nextFact_4 : decode cX3_nextFact 4 = .ok (.iand, 1) := by decide +kernel
theorem dX3_nextFact_5 : decode cX3_nextFact 5 = .ok (.istore_n 3, 1) := by decide +kernel
theorem dX3_nextFact_6 : decode cX3_nextFact 6 = .ok (.iload_n 3, 1) := by decide +kernel
theorem dX3_nextFact_7 : decode cX3_nextFact 7 = .ok (.iload_n 3, 1) := by decide +kernel
theorem dX3_nextFact_8 : decode cX3_nextFact 8 = .ok (.ineg, 1) := by decide +kernel
theorem dX3_nextFact_9 : decode cX3_nextFact 9 = .ok (.iand, 1) := by decide +kernel
theorem dX3_nextFact_10 : decode cX3_nextFact 10 = .ok (.ireturn, 1) := by decide +kernel
theorem dX3_forgets_0 : decode cX3_forgets 0 = .ok (.iconst 0, 1) := by decide +kernel
theorem dX3_forgets_1 : decode cX3_forgets 1 = .ok (.ireturn, 1) := by decide +kernel
theorem dX3_price_0 : decode cX3_price 0 = .ok (.iconst 2, 1) := by decide +kernel
theorem dX3_price_1 : decode cX3_price 1 = .ok (.ireturn, 1) := by decide +kernel
theorem dX3_fail_0 : decode cX3_fail 0 = .ok (.iload_n 1, 1) := by decide +kernel
theorem dX3_fail_1 : decode cX3_fail 1 = .ok (.ifCond .eq 11, 3) := by decide +kernel
theorem dX3_fail_4 : decode cX3_fail 4 = .ok (.new 13, 3) := by decide +kernel
theorem dX3_fail_7 : decode cX3_fail 7 = .ok (.dup, 1) := by decide +kernel
theorem dX3_fail_8 : decode cX3_fail 8 = .ok (.invokespecial 15, 3) := by decide +kernel
theorem dX3_fail_11 : decode cX3_fail 11 = .ok (.athrow, 1) := by decide +kernel
theorem dX3_fail_12 : decode cX3_fail 12 = .ok (.return_, 1) := by decide +kernel
theorem dX4_init_0 : decode cX4_init 0 = .ok (.aload_n 0, 1) := by decide +kernel
theorem dX4_init_1 : decode cX4_init 1 = .ok (.invokespecial 1, 3) := by decide +kernel
theorem dX4_init_4 : decode cX4_init 4 = .ok (.return_, 1) := by decide +kernel
theorem dX4_tells_0 : decode cX4_tells 0 = .ok (.iload_n 2, 1) := by decide +kernel
theorem dX4_tells_1 : decode cX4_tells 1 = .ok (.ifCond .ne 7, 3) := by decide +kernel
theorem dX4_tells_4 : decode cX4_tells 4 = .ok (.iconst 0, 1) := by decide +kernel
theorem dX4_tells_5 : decode cX4_tells 5 = .ok (.goto 11, 3) := by decide +kernel
theorem dX4_tells_8 : decode cX4_tells 8 = .ok (.iload_n 2, 1) := by decide +kernel
theorem dX4_tells_9 : decode cX4_tells 9 = .ok (.invokestatic 7, 3) := by decide +kernel
theorem dX4_tells_12 : decode cX4_tells 12 = .ok (.iload_n 1, 1) := by decide +kernel
theorem dX4_tells_13 : decode cX4_tells 13 = .ok (.iconst 3, 1) := by decide +kernel
theorem dX4_tells_14 : decode cX4_tells 14 = .ok (.idiv, 1) := by decide +kernel
theorem dX4_tells_15 : decode cX4_tells 15 = .ok (.iadd, 1) := by decide +kernel
theorem dX4_tells_16 : decode cX4_tells 16 = .ok (.ireturn, 1) := by decide +kernel
theorem dX4_lessons_0 : decode cX4_lessons 0 = .ok (.iload_n 2, 1) := by decide +kernel
theorem dX4_lessons_1 : decode cX4_lessons 1 = .ok (.iconst 2, 1) := by decide +kernel
theorem dX4_lessons_2 : decode cX4_lessons 2 = .ok (.irem, 1) := by decide +kernel
theorem dX4_lessons_3 : decode cX4_lessons 3 = .ok (.ifCond .ne 7, 3) := by decide +kernel
theorem dX4_lessons_6 : decode cX4_lessons 6 = .ok (.iconst 1, 1) := by decide +kernel
theorem dX4_lessons_7 : decode cX4_lessons 7 = .ok (.goto 4, 3) := by decide +kernel
theorem dX4_lessons_10 : decode cX4_lessons 10 = .ok (.iconst 0, 1) := by decide +kernel
theorem dX4_lessons_11 : decode cX4_lessons 11 = .ok (.ireturn, 1) := by decide +kernel
theorem dX4_forgets_0 : decode cX4_forgets 0 = .ok (.iload_n 1, 1) := by decide +kernel
theorem dX4_forgets_1 : decode cX4_forgets 1 = .ok (.bipush 7, 2) := by decide +kernel
theorem dX4_forgets_3 : decode cX4_forgets 3 = .ok (.irem, 1) := by decide +kernel
theorem dX4_forgets_4 : decode cX4_forgets 4 = .ok (.ifCond .ne 7, 3) := by decide +kernel
theorem dX4_forgets_7 : decode cX4_forgets 7 = .ok (.iconst 1, 1) := by decide +kernel
theorem dX4_forgets_8 : decode cX4_forgets 8 = .ok (.goto 4, 3) := by decide +kernel
theorem dX4_forgets_11 : decode cX4_forgets 11 = .ok (.iconst 0, 1) := by decide +kernel
theorem dX4_forgets_12 : decode cX4_forgets 12 = .ok (.ireturn, 1) := by decide +kernel
theorem dX4_price_0 : decode cX4_price 0 = .ok (.iconst 1, 1) := by decide +kernel
theorem dX4_price_1 : decode cX4_price 1 = .ok (.ireturn, 1) := by decide +kernel
theorem dX4_fail_0 : decode cX4_fail 0 = .ok (.return_, 1) := by decide +kernel
theorem dX5_init_0 : decode cX5_init 0 = .ok (.aload_n 0, 1) := by decide +kernel
theorem dX5_init_1 : decode cX5_init 1 = .ok (.invokespecial 1, 3) := by decide +kernel
theorem dX5_init_4 : decode cX5_init 4 = .ok (.return_, 1) := by decide +kernel
theorem dX5_lessons_0 : decode cX5_lessons 0 = .ok (.iload_n 1, 1) := by decide +kernel
theorem dX5_lessons_1 : decode cX5_lessons 1 = .ok (.iconst 2, 1) := by decide +kernel
theorem dX5_lessons_2 : decode cX5_lessons 2 = .ok (.idiv, 1) := by decide +kernel
theorem dX5_lessons_3 : decode cX5_lessons 3 = .ok (.ireturn, 1) := by decide +kernel
theorem dX5_price_0 : decode cX5_price 0 = .ok (.iconst 2, 1) := by decide +kernel
theorem dX5_price_1 : decode cX5_price 1 = .ok (.aload_n 0, 1) := by decide +kernel
theorem dX5_price_2 : decode cX5_price 2 = .ok (.iload_n 1, 1) := by decide +kernel
theorem dX5_price_3 : decode cX5_price 3 = .ok (.invokespecial 7, 3) := by decide +kernel
theorem dX5_price_6 : decode cX5_price 6 = .ok (.imul, 1) := by decide +kernel
theorem dX5_price_7 : decode cX5_price 7 = .ok (.ireturn, 1) := by decide +kernel
theorem dX6_init_0 : decode cX6_init 0 = .ok (.aload_n 0, 1) := by decide +kernel
theorem dX6_init_1 : decode cX6_init 1 = .ok (.invokespecial 3, 3) := by decide +kernel
theorem dX6_init_4 : decode cX6_init 4 = .ok (.return_, 1) := by decide +kernel
theorem dX6_tells_0 : decode cX6_tells 0 = .ok (.iload_n 2, 1) := by decide +kernel
theorem dX6_tells_1 : decode cX6_tells 1 = .ok (.invokestatic 9, 3) := by decide +kernel
theorem dX6_tells_4 : decode cX6_tells 4 = .ok (.iload_n 2, 1) := by decide +kernel
theorem dX6_tells_5 : decode cX6_tells 5 = .ok (.sipush 4032, 3) := by decide +kernel
theorem dX6_tells_8 : decode cX6_tells 8 = .ok (.iand, 1) := by decide +kernel
theorem dX6_tells_9 : decode cX6_tells 9 = .ok (.invokestatic 9, 3) := by decide +kernel
theorem dX6_tells_12 : decode cX6_tells 12 = .ok (.iadd, 1) := by decide +kernel
theorem dX6_tells_13 : decode cX6_tells 13 = .ok (.ireturn, 1) := by decide +kernel
theorem dX6_lessons_0 : decode cX6_lessons 0 = .ok (.iload_n 3, 1) := by decide +kernel
theorem dX6_lessons_1 : decode cX6_lessons 1 = .ok (.ifCond .eq 7, 3) := by decide +kernel
theorem dX6_lessons_4 : decode cX6_lessons 4 = .ok (.iconst 1, 1) := by decide +kernel
theorem dX6_lessons_5 : decode cX6_lessons 5 = .ok (.goto 4, 3) := by decide +kernel
theorem dX6_lessons_8 : decode cX6_lessons 8 = .ok (.iconst 2, 1) := by decide +kernel
theorem dX6_lessons_9 : decode cX6_lessons 9 = .ok (.ireturn, 1) := by decide +kernel
theorem dX6_price_0 : decode cX6_price 0 = .ok (.iconst 3, 1) := by decide +kernel
theorem dX6_price_1 : decode cX6_price 1 = .ok (.ireturn, 1) := by decide +kernel
theorem dX7_init_0 : decode cX7_init 0 = .ok (.aload_n 0, 1) := by decide +kernel
theorem dX7_init_1 : decode cX7_init 1 = .ok (.invokespecial 3, 3) := by decide +kernel
theorem dX7_init_4 : decode cX7_init 4 = .ok (.aload_n 0, 1) := by decide +kernel
theorem dX7_init_5 : decode cX7_init 5 = .ok (.bipush 100, 2) := by decide +kernel
theorem dX7_init_7 : decode cX7_init 7 = .ok (.newarray .int, 2) := by decide +kernel
theorem dX7_init_9 : decode cX7_init 9 = .ok (.putfield 9, 3) := by decide +kernel
theorem dX7_init_12 : decode cX7_init 12 = .ok (.return_, 1) := by decide +kernel
theorem dX7_holdOne_0 : decode cX7_holdOne 0 = .ok (.aload_n 0, 1) := by decide +kernel
theorem dX7_holdOne_1 : decode cX7_holdOne 1 = .ok (.iconst 1, 1) := by decide +kernel
theorem dX7_holdOne_2 : decode cX7_holdOne 2 = .ok (.putfield 15, 3) := by decide +kernel
theorem dX7_holdOne_5 : decode cX7_holdOne 5 = .ok (.aload_n 0, 1) := by decide +kernel
theorem dX7_holdOne_6 : decode cX7_holdOne 6 = .ok (.iload_n 1, 1) := by decide +kernel
theorem dX7_holdOne_7 : decode cX7_holdOne 7 = .ok (.putfield 19, 3) := by decide +kernel
theorem dX7_holdOne_10 : decode cX7_holdOne 10 = .ok (.aload_n 0, 1) := by decide +kernel
theorem dX7_holdOne_11 : decode cX7_holdOne 11 = .ok (.iload_n 2, 1) := by decide +kernel
theorem dX7_holdOne_12 : decode cX7_holdOne 12 = .ok (.putfield 22, 3) := by decide +kernel
theorem dX7_holdOne_15 : decode cX7_holdOne 15 = .ok (.return_, 1) := by decide +kernel
theorem dX7_holdRow_0 : decode cX7_holdRow 0 = .ok (.aload_n 0, 1) := by decide +kernel
theorem dX7_holdRow_1 : decode cX7_holdRow 1 = .ok (.iconst 2, 1) := by decide +kernel
theorem dX7_holdRow_2 : decode cX7_holdRow 2 = .ok (.putfield 15, 3) := by decide +kernel
theorem dX7_holdRow_5 : decode cX7_holdRow 5 = .ok (.aload_n 0, 1) := by decide +kernel
theorem dX7_holdRow_6 : decode cX7_holdRow 6 = .ok (.iload_n 1, 1) := by decide +kernel
theorem dX7_holdRow_7 : decode cX7_holdRow 7 = .ok (.putfield 25, 3) := by decide +kernel
theorem dX7_holdRow_10 : decode cX7_holdRow 10 = .ok (.aload_n 0, 1) := by decide +kernel
theorem dX7_holdRow_11 : decode cX7_holdRow 11 = .ok (.iload_n 2, 1) := by decide +kernel
theorem dX7_holdRow_12 : decode cX7_holdRow 12 = .ok (.putfield 28, 3) := by decide +kernel
theorem dX7_holdRow_15 : decode cX7_holdRow 15 = .ok (.aload_n 0, 1) := by decide +kernel
theorem dX7_holdRow_16 : decode cX7_holdRow 16 = .ok (.getfield 9, 3) := by decide +kernel
theorem dX7_holdRow_19 : decode cX7_holdRow 19 = .ok (.iconst 0, 1) := by decide +kernel
theorem dX7_holdRow_20 : decode cX7_holdRow 20 = .ok (.invokestatic 31, 3) := by decide +kernel
theorem dX7_holdRow_23 : decode cX7_holdRow 23 = .ok (.return_, 1) := by decide +kernel
theorem dX7_hasPlaces_0 : decode cX7_hasPlaces 0 = .ok (.iload_n 1, 1) := by decide +kernel
theorem dX7_hasPlaces_1 : decode cX7_hasPlaces 1 = .ok (.ifCond .lt 29, 3) := by decide +kernel
theorem dX7_hasPlaces_4 : decode cX7_hasPlaces 4 = .ok (.iload_n 2, 1) := by decide +kernel
theorem dX7_hasPlaces_5 : decode cX7_hasPlaces 5 = .ok (.ifCond .lt 25, 3) := by decide +kernel
theorem dX7_hasPlaces_8 : decode cX7_hasPlaces 8 = .ok (.iload_n 2, 1) := by decide +kernel
theorem dX7_hasPlaces_9 : decode cX7_hasPlaces 9 = .ok (.aload_n 0, 1) := by decide +kernel
theorem dX7_hasPlaces_10 : decode cX7_hasPlaces 10 = .ok (.getfield 28, 3) := by decide +kernel
theorem dX7_hasPlaces_13 : decode cX7_hasPlaces 13 = .ok (.if_icmp .gt 17, 3) := by decide +kernel
theorem dX7_hasPlaces_16 : decode cX7_hasPlaces 16 = .ok (.iload_n 1, 1) := by decide +kernel
theorem dX7_hasPlaces_17 : decode cX7_hasPlaces 17 = .ok (.aload_n 0, 1) := by decide +kernel
theorem dX7_hasPlaces_18 : decode cX7_hasPlaces 18 = .ok (.getfield 28, 3) := by decide +kernel
theorem dX7_hasPlaces_21 : decode cX7_hasPlaces 21 = .ok (.iload_n 2, 1) := by decide +kernel
theorem dX7_hasPlaces_22 : decode cX7_hasPlaces 22 = .ok (.isub, 1) := by decide +kernel
theorem dX7_hasPlaces_23 : decode cX7_hasPlaces 23 = .ok (.if_icmp .gt 7, 3) := by decide +kernel
theorem dX7_hasPlaces_26 : decode cX7_hasPlaces 26 = .ok (.iconst 1, 1) := by decide +kernel
theorem dX7_hasPlaces_27 : decode cX7_hasPlaces 27 = .ok (.goto 4, 3) := by decide +kernel
theorem dX7_hasPlaces_30 : decode cX7_hasPlaces 30 = .ok (.iconst 0, 1) := by decide +kernel
theorem dX7_hasPlaces_31 : decode cX7_hasPlaces 31 = .ok (.ireturn, 1) := by decide +kernel
theorem dX7_cut_0 : decode cX7_cut 0 = .ok (.aload_n 0, 1) := by decide +kernel
theorem dX7_cut_1 : decode cX7_cut 1 = .ok (.getfield 25, 3) := by decide +kernel
theorem dX7_cut_4 : decode cX7_cut 4 = .ok (.ifCond .ne 6, 3) := by decide +kernel
theorem dX7_cut_7 : decode cX7_cut 7 = .ok (.iload_n 1, 1) := by decide +kernel
theorem dX7_cut_8 : decode cX7_cut 8 = .ok (.i2b, 1) := by decide +kernel
theorem dX7_cut_9 : decode cX7_cut 9 = .ok (.ireturn, 1) := by decide +kernel
theorem dX7_cut_10 : decode cX7_cut 10 = .ok (.aload_n 0, 1) := by decide +kernel
theorem dX7_cut_11 : decode cX7_cut 11 = .ok (.getfield 25, 3) := by decide +kernel
theorem dX7_cut_14 : decode cX7_cut 14 = .ok (.iconst 1, 1) := by decide +kernel
theorem dX7_cut_15 : decode cX7_cut 15 = .ok (.if_icmp .ne 8, 3) := by decide +kernel
theorem dX7_cut_18 : decode cX7_cut 18 = .ok (.iload_n 1, 1) := by decide +kernel
theorem dX7_cut_19 : decode cX7_cut 19 = .ok (.i2s, 1) := by decide +kernel
theorem dX7_cut_20 : decode cX7_cut 20 = .ok (.goto 4, 3) := by decide +kernel
theorem dX7_cut_23 : decode cX7_cut 23 = .ok (.iload_n 1, 1) := by decide +kernel
theorem dX7_cut_24 : decode cX7_cut 24 = .ok (.ireturn, 1) := by decide +kernel
theorem dX7_agrees_0 : decode cX7_agrees 0 = .ok (.aload_n 0, 1) := by decide +kernel
theorem dX7_agrees_1 : decode cX7_agrees 1 = .ok (.getfield 9, 3) := by decide +kernel
theorem dX7_agrees_4 : decode cX7_agrees 4 = .ok (.iload_n 1, 1) := by decide +kernel
theorem dX7_agrees_5 : decode cX7_agrees 5 = .ok (.iaload, 1) := by decide +kernel
theorem dX7_agrees_6 : decode cX7_agrees 6 = .ok (.iload_n 2, 1) := by decide +kernel
theorem dX7_agrees_7 : decode cX7_agrees 7 = .ok (.if_icmp .eq 16, 3) := by decide +kernel
theorem dX7_agrees_10 : decode cX7_agrees 10 = .ok (.aload_n 0, 1) := by decide +kernel
theorem dX7_agrees_11 : decode cX7_agrees 11 = .ok (.getfield 9, 3) := by decide +kernel
theorem dX7_agrees_14 : decode cX7_agrees 14 = .ok (.iload_n 1, 1) := by decide +kernel
theorem dX7_agrees_15 : decode cX7_agrees 15 = .ok (.iaload, 1) := by decide +kernel
theorem dX7_agrees_16 : decode cX7_agrees 16 = .ok (.aload_n 0, 1) := by decide +kernel
theorem dX7_agrees_17 : decode cX7_agrees 17 = .ok (.invokevirtual 37, 3) := by decide +kernel
theorem dX7_agrees_20 : decode cX7_agrees 20 = .ok (.if_icmp .ne 7, 3) := by decide +kernel
theorem dX7_agrees_23 : decode cX7_agrees 23 = .ok (.iconst 1, 1) := by decide +kernel
theorem dX7_agrees_24 : decode cX7_agrees 24 = .ok (.goto 4, 3) := by decide +kernel
theorem dX7_agrees_27 : decode cX7_agrees 27 = .ok (.iconst 0, 1) := by decide +kernel
theorem dX7_agrees_28 : decode cX7_agrees 28 = .ok (.ireturn, 1) := by decide +kernel
theorem dX7_leastNumber_0 : decode cX7_leastNumber 0 = .ok (.aload_n 0, 1) := by decide +kernel
theorem dX7_leastNumber_1 : decode cX7_leastNumber 1 = .ok (.getfield 25, 3) := by decide +kernel
theorem dX7_leastNumber_4 : decode cX7_leastNumber 4 = .ok (.ifCond .ne 6, 3) := by decide +kernel
theorem dX7_leastNumber_7 : decode cX7_leastNumber 7 = .ok (.bipush (-128), 2) := by decide +kernel
theorem dX7_leastNumber_9 : decode cX7_leastNumber 9 = .ok (.ireturn, 1) := by decide +kernel
theorem dX7_leastNumber_10 : decode cX7_leastNumber 10 = .ok (.aload_n 0, 1) := by decide +kernel
theorem dX7_leastNumber_11 : decode cX7_leastNumber 11 = .ok (.getfield 25, 3) := by decide +kernel
theorem dX7_leastNumber_14 : decode cX7_leastNumber 14 = .ok (.iconst 1, 1) := by decide +kernel
theorem dX7_leastNumber_15 : decode cX7_leastNumber 15 = .ok (.if_icmp .ne 9, 3) := by decide +kernel
theorem dX7_leastNumber_18 : decode cX7_leastNumber 18 = .ok (.sipush (-32768), 3) := by decide +kernel
theorem dX7_leastNumber_21 : decode cX7_leastNumber 21 = .ok (.goto 5, 3) := by decide +kernel
theorem dX7_leastNumber_24 : decode cX7_leastNumber 24 = .ok (.ldc 41, 2) := by decide +kernel
theorem dX7_leastNumber_26 : decode cX7_leastNumber 26 = .ok (.ireturn, 1) := by decide +kernel
theorem dX8_init_0 : decode cX8_init 0 = .ok (.aload_n 0, 1) := by decide +kernel
theorem dX8_init_1 : decode cX8_init 1 = .ok (.invokespecial 1, 3) := by decide +kernel
theorem dX8_init_4 : decode cX8_init 4 = .ok (.return_, 1) := by decide +kernel
theorem dX8_tells_0 : decode cX8_tells 0 = .ok (.iconst 0, 1) := by decide +kernel
theorem dX8_tells_1 : decode cX8_tells 1 = .ok (.ireturn, 1) := by decide +kernel
theorem dX8_lessons_0 : decode cX8_lessons 0 = .ok (.iconst 0, 1) := by decide +kernel
theorem dX8_lessons_1 : decode cX8_lessons 1 = .ok (.ireturn, 1) := by decide +kernel
theorem dX9_digitsOf_0 : decode cX9_digitsOf 0 = .ok (.iload_n 0, 1) := by decide +kernel
theorem dX9_digitsOf_1 : decode cX9_digitsOf 1 = .ok (.tableswitch 96 99 116 #[94, 94, 96, 96, 96, 96, 96, 96, 96, 90, 96, 96, 94, 92, 96, 96, 96, 87], 87) := by decide +kernel
theorem dX9_digitsOf_88 : decode cX9_digitsOf 88 = .ok (.bipush 6, 2) := by decide +kernel
theorem dX9_digitsOf_90 : decode cX9_digitsOf 90 = .ok (.ireturn, 1) := by decide +kernel
theorem dX9_digitsOf_91 : decode cX9_digitsOf 91 = .ok (.iconst 4, 1) := by decide +kernel
theorem dX9_digitsOf_92 : decode cX9_digitsOf 92 = .ok (.ireturn, 1) := by decide +kernel
theorem dX9_digitsOf_93 : decode cX9_digitsOf 93 = .ok (.iconst 3, 1) := by decide +kernel
theorem dX9_digitsOf_94 : decode cX9_digitsOf 94 = .ok (.ireturn, 1) := by decide +kernel
theorem dX9_digitsOf_95 : decode cX9_digitsOf 95 = .ok (.iconst 2, 1) := by decide +kernel
theorem dX9_digitsOf_96 : decode cX9_digitsOf 96 = .ok (.ireturn, 1) := by decide +kernel
theorem dX9_digitsOf_97 : decode cX9_digitsOf 97 = .ok (.iconst (-1), 1) := by decide +kernel
theorem dX9_digitsOf_98 : decode cX9_digitsOf 98 = .ok (.ireturn, 1) := by decide +kernel
theorem dX9_grammarFault_0 : decode cX9_grammarFault 0 = .ok (.iconst 0, 1) := by decide +kernel
theorem dX9_grammarFault_1 : decode cX9_grammarFault 1 = .ok (.istore_n 1, 1) := by decide +kernel
theorem dX9_grammarFault_2 : decode cX9_grammarFault 2 = .ok (.iconst 0, 1) := by decide +kernel
theorem dX9_grammarFault_3 : decode cX9_grammarFault 3 = .ok (.istore_n 2, 1) := by decide +kernel
theorem dX9_grammarFault_4 : decode cX9_grammarFault 4 = .ok (.iload_n 2, 1) := by decide +kernel
theorem dX9_grammarFault_5 : decode cX9_grammarFault 5 = .ok (.bipush 100, 2) := by decide +kernel
theorem dX9_grammarFault_7 : decode cX9_grammarFault 7 = .ok (.if_icmp .ge 37, 3) := by decide +kernel
theorem dX9_grammarFault_10 : decode cX9_grammarFault 10 = .ok (.aload_n 0, 1) := by decide +kernel
theorem dX9_grammarFault_11 : decode cX9_grammarFault 11 = .ok (.iload_n 1, 1) := by decide +kernel
theorem dX9_grammarFault_12 : decode cX9_grammarFault 12 = .ok (.invokestatic 9, 3) := by decide +kernel
theorem dX9_grammarFault_15 : decode cX9_grammarFault 15 = .ok (.istore_n 3, 1) := by decide +kernel
theorem dX9_grammarFault_16 : decode cX9_grammarFault 16 = .ok (.iload_n 3, 1) := by decide +kernel
theorem dX9_grammarFault_17 : decode cX9_grammarFault 17 = .ok (.ifCond .lt 5, 3) := by decide +kernel
theorem dX9_grammarFault_20 : decode cX9_grammarFault 20 = .ok (.iload_n 3, 1) := by decide +kernel
theorem dX9_grammarFault_21 : decode cX9_grammarFault 21 = .ok (.ireturn, 1) := by decide +kernel
theorem dX9_grammarFault_22 : decode cX9_grammarFault 22 = .ok (.aload_n 0, 1) := by decide +kernel
theorem dX9_grammarFault_23 : decode cX9_grammarFault 23 = .ok (.iload_n 1, 1) := by decide +kernel
theorem dX9_grammarFault_24 : decode cX9_grammarFault 24 = .ok (.invokestatic 15, 3) := by decide +kernel
theorem dX9_grammarFault_27 : decode cX9_grammarFault 27 = .ok (.istore_n 1, 1) := by decide +kernel
theorem dX9_grammarFault_28 : decode cX9_grammarFault 28 = .ok (.iload_n 1, 1) := by decide +kernel
theorem dX9_grammarFault_29 : decode cX9_grammarFault 29 = .ok (.aload_n 0, 1) := by decide +kernel
theorem dX9_grammarFault_30 : decode cX9_grammarFault 30 = .ok (.getfield 18, 3) := by decide +kernel
theorem dX9_grammarFault_33 : decode cX9_grammarFault 33 = .ok (.if_icmp .lt 5, 3) := by decide +kernel
theorem dX9_grammarFault_36 : decode cX9_grammarFault 36 = .ok (.iconst (-1), 1) := by decide +kernel
theorem dX9_grammarFault_37 : decode cX9_grammarFault 37 = .ok (.ireturn, 1) := by decide +kernel
theorem dX9_grammarFault_38 : decode cX9_grammarFault 38 = .ok (.iinc 2 1, 3) := by decide +kernel
theorem dX9_grammarFault_41 : decode cX9_grammarFault 41 = .ok (.goto (-37), 3) := by decide +kernel
theorem dX9_grammarFault_44 : decode cX9_grammarFault 44 = .ok (.iconst (-1), 1) := by decide +kernel
theorem dX9_grammarFault_45 : decode cX9_grammarFault 45 = .ok (.ireturn, 1) := by decide +kernel
theorem dX9_statementFault_0 : decode cX9_statementFault 0 = .ok (.iload_n 1, 1) := by decide +kernel
theorem dX9_statementFault_1 : decode cX9_statementFault 1 = .ok (.aload_n 0, 1) := by decide +kernel
theorem dX9_statementFault_2 : decode cX9_statementFault 2 = .ok (.getfield 18, 3) := by decide +kernel
theorem dX9_statementFault_5 : decode cX9_statementFault 5 = .ok (.if_icmp .ge 15, 3) := by decide +kernel
theorem dX9_statementFault_8 : decode cX9_statementFault 8 = .ok (.aload_n 0, 1) := by decide +kernel
theorem dX9_statementFault_9 : decode cX9_statementFault 9 = .ok (.getfield 24, 3) := by decide +kernel
theorem dX9_statementFault_12 : decode cX9_statementFault 12 = .ok (.iload_n 1, 1) := by decide +kernel
theorem dX9_statementFault_13 : decode cX9_statementFault 13 = .ok (.iaload, 1) := by decide +kernel
theorem dX9_statementFault_14 : decode cX9_statementFault 14 = .ok (.invokestatic 28, 3) := by decide +kernel
theorem dX9_statementFault_17 : decode cX9_statementFault 17 = .ok (.ifCond .ge 5, 3) := by decide +kernel
theorem dX9_statementFault_20 : decode cX9_statementFault 20 = .ok (.iload_n 1, 1) := by decide +kernel
theorem dX9_statementFault_21 : decode cX9_statementFault 21 = .ok (.ireturn, 1) := by decide +kernel
theorem dX9_statementFault_22 : decode cX9_statementFault 22 = .ok (.iload_n 1, 1) := by decide +kernel
theorem dX9_statementFault_23 : decode cX9_statementFault 23 = .ok (.iconst 1, 1) := by decide +kernel
theorem dX9_statementFault_24 : decode cX9_statementFault 24 = .ok (.iadd, 1) := by decide +kernel
theorem dX9_statementFault_25 : decode cX9_statementFault 25 = .ok (.aload_n 0, 1) := by decide +kernel
theorem dX9_statementFault_26 : decode cX9_statementFault 26 = .ok (.getfield 24, 3) := by decide +kernel
theorem dX9_statementFault_29 : decode cX9_statementFault 29 = .ok (.iload_n 1, 1) := by decide +kernel
theorem dX9_statementFault_30 : decode cX9_statementFault 30 = .ok (.iaload, 1) := by decide +kernel
theorem dX9_statementFault_31 : decode cX9_statementFault 31 = .ok (.invokestatic 28, 3) := by decide +kernel
theorem dX9_statementFault_34 : decode cX9_statementFault 34 = .ok (.iadd, 1) := by decide +kernel
theorem dX9_statementFault_35 : decode cX9_statementFault 35 = .ok (.istore_n 2, 1) := by decide +kernel
theorem dX9_statementFault_36 : decode cX9_statementFault 36 = .ok (.iload_n 1, 1) := by decide +kernel
theorem dX9_statementFault_37 : decode cX9_statementFault 37 = .ok (.iconst 1, 1) := by decide +kernel
theorem dX9_statementFault_38 : decode cX9_statementFault 38 = .ok (.iadd, 1) := by decide +kernel
theorem dX9_statementFault_39 : decode cX9_statementFault 39 = .ok (.istore_n 3, 1) := by decide +kernel
theorem dX9_statementFault_40 : decode cX9_statementFault 40 = .ok (.iload_n 3, 1) := by decide +kernel
theorem dX9_statementFault_41 : decode cX9_statementFault 41 = .ok (.iload_n 2, 1) := by decide +kernel
theorem dX9_statementFault_42 : decode cX9_statementFault 42 = .ok (.if_icmp .ge 41, 3) := by decide +kernel
theorem dX9_statementFault_45 : decode cX9_statementFault 45 = .ok (.iload_n 3, 1) := by decide +kernel
theorem dX9_statementFault_46 : decode cX9_statementFault 46 = .ok (.aload_n 0, 1) := by decide +kernel
theorem dX9_statementFault_47 : decode cX9_statementFault 47 = .ok (.getfield 18, 3) := by decide +kernel
theorem dX9_statementFault_50 : decode cX9_statementFault 50 = .ok (.if_icmp .ge 25, 3) := by decide +kernel
theorem dX9_statementFault_53 : decode cX9_statementFault 53 = .ok (.aload_n 0, 1) := by decide +kernel
theorem dX9_statementFault_54 : decode cX9_statementFault 54 = .ok (.getfield 24, 3) := by decide +kernel
theorem dX9_statementFault_57 : decode cX9_statementFault 57 = .ok (.iload_n 3, 1) := by decide +kernel
theorem dX9_statementFault_58 : decode cX9_statementFault 58 = .ok (.iaload, 1) := by decide +kernel
theorem dX9_statementFault_59 : decode cX9_statementFault 59 = .ok (.bipush 48, 2) := by decide +kernel
theorem dX9_statementFault_61 : decode cX9_statementFault 61 = .ok (.if_icmp .lt 14, 3) := by decide +kernel
theorem dX9_statementFault_64 : decode cX9_statementFault 64 = .ok (.aload_n 0, 1) := by decide +kernel
theorem dX9_statementFault_65 : decode cX9_statementFault 65 = .ok (.getfield 24, 3) := by decide +kernel
theorem dX9_statementFault_68 : decode cX9_statementFault 68 = .ok (.iload_n 3, 1) := by decide +kernel
theorem dX9_statementFault_69 : decode cX9_statementFault 69 = .ok (.iaload, 1) := by decide +kernel
theorem dX9_statementFault_70 : decode cX9_statementFault 70 = .ok (.bipush 57, 2) := by decide +kernel
theorem dX9_statementFault_72 : decode cX9_statementFault 72 = .ok (.if_icmp .le 5, 3) := by decide +kernel
theorem dX9_statementFault_75 : decode cX9_statementFault 75 = .ok (.iload_n 3, 1) := by decide +kernel
theorem dX9_statementFault_76 : decode cX9_statementFault 76 = .ok (.ireturn, 1) := by decide +kernel
theorem dX9_statementFault_77 : decode cX9_statementFault 77 = .ok (.iinc 3 1, 3) := by decide +kernel
theorem dX9_statementFault_80 : decode cX9_statementFault 80 = .ok (.goto (-40), 3) := by decide +kernel
theorem dX9_statementFault_83 : decode cX9_statementFault 83 = .ok (.iload_n 2, 1) := by decide +kernel
theorem dX9_statementFault_84 : decode cX9_statementFault 84 = .ok (.aload_n 0, 1) := by decide +kernel
theorem dX9_statementFault_85 : decode cX9_statementFault 85 = .ok (.getfield 18, 3) := by decide +kernel
theorem dX9_statementFault_88 : decode cX9_statementFault 88 = .ok (.if_icmp .ge 14, 3) := by decide +kernel
theorem dX9_statementFault_91 : decode cX9_statementFault 91 = .ok (.aload_n 0, 1) := by decide +kernel
theorem dX9_statementFault_92 : decode cX9_statementFault 92 = .ok (.getfield 24, 3) := by decide +kernel
theorem dX9_statementFault_95 : decode cX9_statementFault 95 = .ok (.iload_n 2, 1) := by decide +kernel
theorem dX9_statementFault_96 : decode cX9_statementFault 96 = .ok (.iaload, 1) := by decide +kernel
theorem dX9_statementFault_97 : decode cX9_statementFault 97 = .ok (.bipush 59, 2) := by decide +kernel
theorem dX9_statementFault_99 : decode cX9_statementFault 99 = .ok (.if_icmp .eq 7, 3) := by decide +kernel
theorem dX9_statementFault_102 : decode cX9_statementFault 102 = .ok (.iload_n 2, 1) := by decide +kernel
theorem dX9_statementFault_103 : decode cX9_statementFault 103 = .ok (.goto 4, 3) := by decide +kernel
theorem dX9_statementFault_106 : decode cX9_statementFault 106 = .ok (.iconst (-1), 1) := by decide +kernel
theorem dX9_statementFault_107 : decode cX9_statementFault 107 = .ok (.ireturn, 1) := by decide +kernel
theorem dX9_behind_0 : decode cX9_behind 0 = .ok (.iload_n 1, 1) := by decide +kernel
theorem dX9_behind_1 : decode cX9_behind 1 = .ok (.iconst 2, 1) := by decide +kernel
theorem dX9_behind_2 : decode cX9_behind 2 = .ok (.iadd, 1) := by decide +kernel
theorem dX9_behind_3 : decode cX9_behind 3 = .ok (.iconst 0, 1) := by decide +kernel
theorem dX9_behind_4 : decode cX9_behind 4 = .ok (.aload_n 0, 1) := by decide +kernel
theorem dX9_behind_5 : decode cX9_behind 5 = .ok (.getfield 24, 3) := by decide +kernel
theorem dX9_behind_8 : decode cX9_behind 8 = .ok (.iload_n 1, 1) := by decide +kernel
theorem dX9_behind_9 : decode cX9_behind 9 = .ok (.iaload, 1) := by decide +kernel
theorem dX9_behind_10 : decode cX9_behind 10 = .ok (.invokestatic 28, 3) := by decide +kernel
theorem dX9_behind_13 : decode cX9_behind 13 = .ok (.invokestatic 32, 3) := by decide +kernel
theorem dX9_behind_16 : decode cX9_behind 16 = .ok (.iadd, 1) := by decide +kernel
theorem dX9_behind_17 : decode cX9_behind 17 = .ok (.ireturn, 1) := by decide +kernel
theorem dX9_obey_0 : decode cX9_obey 0 = .ok (.aload_n 0, 1) := by decide +kernel
theorem dX9_obey_1 : decode cX9_obey 1 = .ok (.iload_n 1, 1) := by decide +kernel
theorem dX9_obey_2 : decode cX9_obey 2 = .ok (.iconst 1, 1) := by decide +kernel
theorem dX9_obey_3 : decode cX9_obey 3 = .ok (.iadd, 1) := by decide +kernel
theorem dX9_obey_4 : decode cX9_obey 4 = .ok (.iconst 1, 1) := by decide +kernel
theorem dX9_obey_5 : decode cX9_obey 5 = .ok (.invokestatic 38, 3) := by decide +kernel
theorem dX9_obey_8 : decode cX9_obey 8 = .ok (.istore_n 3, 1) := by decide +kernel
theorem dX9_obey_9 : decode cX9_obey 9 = .ok (.aload_n 0, 1) := by decide +kernel
theorem dX9_obey_10 : decode cX9_obey 10 = .ok (.iload_n 1, 1) := by decide +kernel
theorem dX9_obey_11 : decode cX9_obey 11 = .ok (.iconst 2, 1) := by decide +kernel
theorem dX9_obey_12 : decode cX9_obey 12 = .ok (.iadd, 1) := by decide +kernel
theorem dX9_obey_13 : decode cX9_obey 13 = .ok (.iconst 1, 1) := by decide +kernel
theorem dX9_obey_14 : decode cX9_obey 14 = .ok (.invokestatic 38, 3) := by decide +kernel
theorem dX9_obey_17 : decode cX9_obey 17 = .ok (.istore 4, 2) := by decide +kernel
theorem dX9_obey_19 : decode cX9_obey 19 = .ok (.aload_n 0, 1) := by decide +kernel
theorem dX9_obey_20 : decode cX9_obey 20 = .ok (.getfield 24, 3) := by decide +kernel
theorem dX9_obey_23 : decode cX9_obey 23 = .ok (.iload_n 1, 1) := by decide +kernel
theorem dX9_obey_24 : decode cX9_obey 24 = .ok (.iaload, 1) := by decide +kernel
theorem dX9_obey_25 : decode cX9_obey 25 = .ok (.tableswitch 171 99 116 #[150, 158, 171, 171, 171, 171, 171, 171, 171, 126, 171, 171, 142, 110, 171, 171, 171, 87], 87) := by decide +kernel
theorem dX9_obey_112 : decode cX9_obey 112 = .ok (.aload_n 2, 1) := by decide +kernel
theorem dX9_obey_113 : decode cX9_obey 113 = .ok (.iload_n 3, 1) := by decide +kernel
theorem dX9_obey_114 : decode cX9_obey 114 = .ok (.aload_n 0, 1) := by decide +kernel
theorem dX9_obey_115 : decode cX9_obey 115 = .ok (.iload_n 1, 1) := by decide +kernel
theorem dX9_obey_116 : decode cX9_obey 116 = .ok (.iconst 2, 1) := by decide +kernel
theorem dX9_obey_117 : decode cX9_obey 117 = .ok (.iadd, 1) := by decide +kernel
theorem dX9_obey_118 : decode cX9_obey 118 = .ok (.iconst 4, 1) := by decide +kernel
theorem dX9_obey_119 : decode cX9_obey 119 = .ok (.invokestatic 38, 3) := by decide +kernel
theorem dX9_obey_122 : decode cX9_obey 122 = .ok (.aload_n 0, 1) := by decide +kernel
theorem dX9_obey_123 : decode cX9_obey 123 = .ok (.iload_n 1, 1) := by decide +kernel
theorem dX9_obey_124 : decode cX9_obey 124 = .ok (.bipush 6, 2) := by decide +kernel
theorem dX9_obey_126 : decode cX9_obey 126 = .ok (.iadd, 1) := by decide +kernel
theorem dX9_obey_127 : decode cX9_obey 127 = .ok (.iconst 1, 1) := by decide +kernel
theorem dX9_obey_128 : decode cX9_obey 128 = .ok (.invokestatic 38, 3) := by decide +kernel
theorem dX9_obey_131 : decode cX9_obey 131 = .ok (.invokevirtual 42, 3) := by decide +kernel
theorem dX9_obey_134 : decode cX9_obey 134 = .ok (.ireturn, 1) := by decide +kernel
theorem dX9_obey_135 : decode cX9_obey 135 = .ok (.aload_n 2, 1) := by decide +kernel
theorem dX9_obey_136 : decode cX9_obey 136 = .ok (.iload_n 3, 1) := by decide +kernel
theorem dX9_obey_137 : decode cX9_obey 137 = .ok (.iload 4, 2) := by decide +kernel
theorem dX9_obey_139 : decode cX9_obey 139 = .ok (.aload_n 0, 1) := by decide +kernel
theorem dX9_obey_140 : decode cX9_obey 140 = .ok (.iload_n 1, 1) := by decide +kernel
theorem dX9_obey_141 : decode cX9_obey 141 = .ok (.iconst 3, 1) := by decide +kernel
theorem dX9_obey_142 : decode cX9_obey 142 = .ok (.iadd, 1) := by decide +kernel
theorem dX9_obey_143 : decode cX9_obey 143 = .ok (.iconst 1, 1) := by decide +kernel
theorem dX9_obey_144 : decode cX9_obey 144 = .ok (.invokestatic 38, 3) := by decide +kernel
theorem dX9_obey_147 : decode cX9_obey 147 = .ok (.invokevirtual 48, 3) := by decide +kernel
theorem dX9_obey_150 : decode cX9_obey 150 = .ok (.ireturn, 1) := by decide +kernel
theorem dX9_obey_151 : decode cX9_obey 151 = .ok (.aload_n 2, 1) := by decide +kernel
theorem dX9_obey_152 : decode cX9_obey 152 = .ok (.iload_n 3, 1) := by decide +kernel
theorem dX9_obey_153 : decode cX9_obey 153 = .ok (.iload 4, 2) := by decide +kernel
theorem dX9_obey_155 : decode cX9_obey 155 = .ok (.aload_n 0, 1) := by decide +kernel
theorem dX9_obey_156 : decode cX9_obey 156 = .ok (.iload_n 1, 1) := by decide +kernel
theorem dX9_obey_157 : decode cX9_obey 157 = .ok (.iconst 3, 1) := by decide +kernel
theorem dX9_obey_158 : decode cX9_obey 158 = .ok (.iadd, 1) := by decide +kernel
theorem dX9_obey_159 : decode cX9_obey 159 = .ok (.iconst 2, 1) := by decide +kernel
theorem dX9_obey_160 : decode cX9_obey 160 = .ok (.invokestatic 38, 3) := by decide +kernel
theorem dX9_obey_163 : decode cX9_obey 163 = .ok (.invokevirtual 51, 3) := by decide +kernel
theorem dX9_obey_166 : decode cX9_obey 166 = .ok (.ireturn, 1) := by decide +kernel
theorem dX9_obey_167 : decode cX9_obey 167 = .ok (.aload_n 2, 1) := by decide +kernel
theorem dX9_obey_168 : decode cX9_obey 168 = .ok (.iload_n 3, 1) := by decide +kernel
theorem dX9_obey_169 : decode cX9_obey 169 = .ok (.iload 4, 2) := by decide +kernel
theorem dX9_obey_171 : decode cX9_obey 171 = .ok (.invokevirtual 54, 3) := by decide +kernel
theorem dX9_obey_174 : decode cX9_obey 174 = .ok (.ireturn, 1) := by decide +kernel
theorem dX9_obey_175 : decode cX9_obey 175 = .ok (.aload_n 2, 1) := by decide +kernel
theorem dX9_obey_176 : decode cX9_obey 176 = .ok (.iload_n 3, 1) := by decide +kernel
theorem dX9_obey_177 : decode cX9_obey 177 = .ok (.iload 4, 2) := by decide +kernel
theorem dX9_obey_179 : decode cX9_obey 179 = .ok (.invokevirtual 58, 3) := by decide +kernel
theorem dX9_obey_182 : decode cX9_obey 182 = .ok (.ireturn, 1) := by decide +kernel
theorem dX9_obey_183 : decode cX9_obey 183 = .ok (.aload_n 2, 1) := by decide +kernel
theorem dX9_obey_184 : decode cX9_obey 184 = .ok (.aload_n 0, 1) := by decide +kernel
theorem dX9_obey_185 : decode cX9_obey 185 = .ok (.iload_n 1, 1) := by decide +kernel
theorem dX9_obey_186 : decode cX9_obey 186 = .ok (.iconst 1, 1) := by decide +kernel
theorem dX9_obey_187 : decode cX9_obey 187 = .ok (.iadd, 1) := by decide +kernel
theorem dX9_obey_188 : decode cX9_obey 188 = .ok (.iconst 2, 1) := by decide +kernel
theorem dX9_obey_189 : decode cX9_obey 189 = .ok (.invokestatic 38, 3) := by decide +kernel
theorem dX9_obey_192 : decode cX9_obey 192 = .ok (.invokevirtual 61, 3) := by decide +kernel
theorem dX9_obey_195 : decode cX9_obey 195 = .ok (.ireturn, 1) := by decide +kernel
theorem dX9_obey_196 : decode cX9_obey 196 = .ok (.iconst 0, 1) := by decide +kernel
theorem dX9_obey_197 : decode cX9_obey 197 = .ok (.ireturn, 1) := by decide +kernel
theorem dX9_number_0 : decode cX9_number 0 = .ok (.iconst 0, 1) := by decide +kernel
theorem dX9_number_1 : decode cX9_number 1 = .ok (.istore_n 3, 1) := by decide +kernel
theorem dX9_number_2 : decode cX9_number 2 = .ok (.iload_n 1, 1) := by decide +kernel
theorem dX9_number_3 : decode cX9_number 3 = .ok (.istore 4, 2) := by decide +kernel
theorem dX9_number_5 : decode cX9_number 5 = .ok (.iload 4, 2) := by decide +kernel
theorem dX9_number_7 : decode cX9_number 7 = .ok (.iload_n 1, 1) := by decide +kernel
theorem dX9_number_8 : decode cX9_number 8 = .ok (.iload_n 2, 1) := by decide +kernel
theorem dX9_number_9 : decode cX9_number 9 = .ok (.iadd, 1) := by decide +kernel
theorem dX9_number_10 : decode cX9_number 10 = .ok (.if_icmp .ge 34, 3) := by decide +kernel
theorem dX9_number_13 : decode cX9_number 13 = .ok (.iload 4, 2) := by decide +kernel
theorem dX9_number_15 : decode cX9_number 15 = .ok (.aload_n 0, 1) := by decide +kernel
theorem dX9_number_16 : decode cX9_number 16 = .ok (.getfield 18, 3) := by decide +kernel
theorem dX9_number_19 : decode cX9_number 19 = .ok (.if_icmp .ge 25, 3) := by decide +kernel
theorem dX9_number_22 : decode cX9_number 22 = .ok (.bipush 10, 2) := by decide +kernel
theorem dX9_number_24 : decode cX9_number 24 = .ok (.iload_n 3, 1) := by decide +kernel
theorem dX9_number_25 : decode cX9_number 25 = .ok (.imul, 1) := by decide +kernel
theorem dX9_number_26 : decode cX9_number 26 = .ok (.aload_n 0, 1) := by decide +kernel
theorem dX9_number_27 : decode cX9_number 27 = .ok (.getfield 24, 3) := by decide +kernel
theorem dX9_number_30 : decode cX9_number 30 = .ok (.iload 4, 2) := by decide +kernel
theorem dX9_number_32 : decode cX9_number 32 = .ok (.iaload, 1) := by decide +kernel
theorem dX9_number_33 : decode cX9_number 33 = .ok (.iadd, 1) := by decide +kernel
theorem dX9_number_34 : decode cX9_number 34 = .ok (.bipush 48, 2) := by decide +kernel
theorem dX9_number_36 : decode cX9_number 36 = .ok (.isub, 1) := by decide +kernel
theorem dX9_number_37 : decode cX9_number 37 = .ok (.istore_n 3, 1) := by decide +kernel
theorem dX9_number_38 : decode cX9_number 38 = .ok (.iinc 4 1, 3) := by decide +kernel
theorem dX9_number_41 : decode cX9_number 41 = .ok (.goto (-36), 3) := by decide +kernel
theorem dX9_number_44 : decode cX9_number 44 = .ok (.iload_n 3, 1) := by decide +kernel
theorem dX9_number_45 : decode cX9_number 45 = .ok (.ireturn, 1) := by decide +kernel
theorem dX10_init_0 : decode cX10_init 0 = .ok (.aload_n 0, 1) := by decide +kernel
theorem dX10_init_1 : decode cX10_init 1 = .ok (.invokespecial 3, 3) := by decide +kernel
theorem dX10_init_4 : decode cX10_init 4 = .ok (.aload_n 0, 1) := by decide +kernel
theorem dX10_init_5 : decode cX10_init 5 = .ok (.aload_n 1, 1) := by decide +kernel
theorem dX10_init_6 : decode cX10_init 6 = .ok (.putfield 9, 3) := by decide +kernel
theorem dX10_init_9 : decode cX10_init 9 = .ok (.aload_n 0, 1) := by decide +kernel
theorem dX10_init_10 : decode cX10_init 10 = .ok (.iconst 5, 1) := by decide +kernel
theorem dX10_init_11 : decode cX10_init 11 = .ok (.newarray .int, 2) := by decide +kernel
theorem dX10_init_13 : decode cX10_init 13 = .ok (.putfield 15, 3) := by decide +kernel
theorem dX10_init_16 : decode cX10_init 16 = .ok (.aload_n 0, 1) := by decide +kernel
theorem dX10_init_17 : decode cX10_init 17 = .ok (.iconst 5, 1) := by decide +kernel
theorem dX10_init_18 : decode cX10_init 18 = .ok (.newarray .int, 2) := by decide +kernel
theorem dX10_init_20 : decode cX10_init 20 = .ok (.putfield 19, 3) := by decide +kernel
theorem dX10_init_23 : decode cX10_init 23 = .ok (.aload_n 0, 1) := by decide +kernel
theorem dX10_init_24 : decode cX10_init 24 = .ok (.iconst 5, 1) := by decide +kernel
theorem dX10_init_25 : decode cX10_init 25 = .ok (.newarray .int, 2) := by decide +kernel
theorem dX10_init_27 : decode cX10_init 27 = .ok (.putfield 22, 3) := by decide +kernel
theorem dX10_init_30 : decode cX10_init 30 = .ok (.aload_n 0, 1) := by decide +kernel
theorem dX10_init_31 : decode cX10_init 31 = .ok (.bipush 7, 2) := by decide +kernel
theorem dX10_init_33 : decode cX10_init 33 = .ok (.newarray .int, 2) := by decide +kernel
theorem dX10_init_35 : decode cX10_init 35 = .ok (.putfield 25, 3) := by decide +kernel
theorem dX10_init_38 : decode cX10_init 38 = .ok (.aload_n 0, 1) := by decide +kernel
theorem dX10_init_39 : decode cX10_init 39 = .ok (.bipush 7, 2) := by decide +kernel
theorem dX10_init_41 : decode cX10_init 41 = .ok (.newarray .int, 2) := by decide +kernel
theorem dX10_init_43 : decode cX10_init 43 = .ok (.putfield 28, 3) := by decide +kernel
theorem dX10_init_46 : decode cX10_init 46 = .ok (.aload_n 0, 1) := by decide +kernel
theorem dX10_init_47 : decode cX10_init 47 = .ok (.bipush 7, 2) := by decide +kernel
theorem dX10_init_49 : decode cX10_init 49 = .ok (.newarray .int, 2) := by decide +kernel
theorem dX10_init_51 : decode cX10_init 51 = .ok (.putfield 31, 3) := by decide +kernel
theorem dX10_init_54 : decode cX10_init 54 = .ok (.aload_n 0, 1) := by decide +kernel
theorem dX10_init_55 : decode cX10_init 55 = .ok (.bipush 35, 2) := by decide +kernel
theorem dX10_init_57 : decode cX10_init 57 = .ok (.newarray .int, 2) := by decide +kernel
theorem dX10_init_59 : decode cX10_init 59 = .ok (.putfield 34, 3) := by decide +kernel
theorem dX10_init_62 : decode cX10_init 62 = .ok (.aload_n 0, 1) := by decide +kernel
theorem dX10_init_63 : decode cX10_init 63 = .ok (.getfield 15, 3) := by decide +kernel
theorem dX10_init_66 : decode cX10_init 66 = .ok (.sipush 4095, 3) := by decide +kernel
theorem dX10_init_69 : decode cX10_init 69 = .ok (.invokestatic 37, 3) := by decide +kernel
theorem dX10_init_72 : decode cX10_init 72 = .ok (.aload_n 0, 1) := by decide +kernel
theorem dX10_init_73 : decode cX10_init 73 = .ok (.getfield 19, 3) := by decide +kernel
theorem dX10_init_76 : decode cX10_init 76 = .ok (.iconst 1, 1) := by decide +kernel
theorem dX10_init_77 : decode cX10_init 77 = .ok (.invokestatic 37, 3) := by decide +kernel
theorem dX10_init_80 : decode cX10_init 80 = .ok (.aload_n 0, 1) := by decide +kernel
theorem dX10_init_81 : decode cX10_init 81 = .ok (.getfield 22, 3) := by decide +kernel
theorem dX10_init_84 : decode cX10_init 84 = .ok (.bipush 9, 2) := by decide +kernel
theorem dX10_init_86 : decode cX10_init 86 = .ok (.invokestatic 37, 3) := by decide +kernel
theorem dX10_init_89 : decode cX10_init 89 = .ok (.return_, 1) := by decide +kernel
theorem dX10_takeFrom_0 : decode cX10_takeFrom 0 = .ok (.aload_n 0, 1) := by decide +kernel
theorem dX10_takeFrom_1 : decode cX10_takeFrom 1 = .ok (.aload_n 1, 1) := by decide +kernel
theorem dX10_takeFrom_2 : decode cX10_takeFrom 2 = .ok (.getfield 43, 3) := by decide +kernel
theorem dX10_takeFrom_5 : decode cX10_takeFrom 5 = .ok (.putfield 43, 3) := by decide +kernel
theorem dX10_takeFrom_8 : decode cX10_takeFrom 8 = .ok (.aload_n 0, 1) := by decide +kernel
theorem dX10_takeFrom_9 : decode cX10_takeFrom 9 = .ok (.aload_n 1, 1) := by decide +kernel
theorem dX10_takeFrom_10 : decode cX10_takeFrom 10 = .ok (.getfield 47, 3) := by decide +kernel
theorem dX10_takeFrom_13 : decode cX10_takeFrom 13 = .ok (.putfield 47, 3) := by decide +kernel
theorem dX10_takeFrom_16 : decode cX10_takeFrom 16 = .ok (.aload_n 1, 1) := by decide +kernel
theorem dX10_takeFrom_17 : decode cX10_takeFrom 17 = .ok (.getfield 15, 3) := by decide +kernel
theorem dX10_takeFrom_20 : decode cX10_takeFrom 20 = .ok (.iconst 0, 1) := by decide +kernel
theorem dX10_takeFrom_21 : decode cX10_takeFrom 21 = .ok (.aload_n 0, 1) := by decide +kernel
theorem dX10_takeFrom_22 : decode cX10_takeFrom 22 = .ok (.getfield 15, 3) := by decide +kernel
theorem dX10_takeFrom_25 : decode cX10_takeFrom 25 = .ok (.iconst 0, 1) := by decide +kernel
theorem dX10_takeFrom_26 : decode cX10_takeFrom 26 = .ok (.iconst 5, 1) := by decide +kernel
theorem dX10_takeFrom_27 : decode cX10_takeFrom 27 = .ok (.invokestatic 50, 3) := by decide +kernel
theorem dX10_takeFrom_30 : decode cX10_takeFrom 30 = .ok (.aload_n 1, 1) := by decide +kernel
theorem dX10_takeFrom_31 : decode cX10_takeFrom 31 = .ok (.getfield 19, 3) := by decide +kernel
theorem dX10_takeFrom_34 : decode cX10_takeFrom 34 = .ok (.iconst 0, 1) := by decide +kernel
theorem dX10_takeFrom_35 : decode cX10_takeFrom 35 = .ok (.aload_n 0, 1) := by decide +kernel
theorem dX10_takeFrom_36 : decode cX10_takeFrom 36 = .ok (.getfield 19, 3) := by decide +kernel
theorem dX10_takeFrom_39 : decode cX10_takeFrom 39 = .ok (.iconst 0, 1) := by decide +kernel
theorem dX10_takeFrom_40 : decode cX10_takeFrom 40 = .ok (.iconst 5, 1) := by decide +kernel
theorem dX10_takeFrom_41 : decode cX10_takeFrom 41 = .ok (.invokestatic 50, 3) := by decide +kernel
theorem dX10_takeFrom_44 : decode cX10_takeFrom 44 = .ok (.aload_n 1, 1) := by decide +kernel
theorem dX10_takeFrom_45 : decode cX10_takeFrom 45 = .ok (.getfield 22, 3) := by decide +kernel
theorem dX10_takeFrom_48 : decode cX10_takeFrom 48 = .ok (.iconst 0, 1) := by decide +kernel
theorem dX10_takeFrom_49 : decode cX10_takeFrom 49 = .ok (.aload_n 0, 1) := by decide +kernel
theorem dX10_takeFrom_50 : decode cX10_takeFrom 50 = .ok (.getfield 22, 3) := by decide +kernel
theorem dX10_takeFrom_53 : decode cX10_takeFrom 53 = .ok (.iconst 0, 1) := by decide +kernel
theorem dX10_takeFrom_54 : decode cX10_takeFrom 54 = .ok (.iconst 5, 1) := by decide +kernel
theorem dX10_takeFrom_55 : decode cX10_takeFrom 55 = .ok (.invokestatic 50, 3) := by decide +kernel
theorem dX10_takeFrom_58 : decode cX10_takeFrom 58 = .ok (.aload_n 1, 1) := by decide +kernel
theorem dX10_takeFrom_59 : decode cX10_takeFrom 59 = .ok (.getfield 25, 3) := by decide +kernel
theorem dX10_takeFrom_62 : decode cX10_takeFrom 62 = .ok (.iconst 0, 1) := by decide +kernel
theorem dX10_takeFrom_63 : decode cX10_takeFrom 63 = .ok (.aload_n 0, 1) := by decide +kernel
theorem dX10_takeFrom_64 : decode cX10_takeFrom 64 = .ok (.getfield 25, 3) := by decide +kernel
theorem dX10_takeFrom_67 : decode cX10_takeFrom 67 = .ok (.iconst 0, 1) := by decide +kernel
theorem dX10_takeFrom_68 : decode cX10_takeFrom 68 = .ok (.bipush 7, 2) := by decide +kernel
theorem dX10_takeFrom_70 : decode cX10_takeFrom 70 = .ok (.invokestatic 50, 3) := by decide +kernel
theorem dX10_takeFrom_73 : decode cX10_takeFrom 73 = .ok (.aload_n 1, 1) := by decide +kernel
theorem dX10_takeFrom_74 : decode cX10_takeFrom 74 = .ok (.getfield 28, 3) := by decide +kernel
theorem dX10_takeFrom_77 : decode cX10_takeFrom 77 = .ok (.iconst 0, 1) := by decide +kernel
theorem dX10_takeFrom_78 : decode cX10_takeFrom 78 = .ok (.aload_n 0, 1) := by decide +kernel
theorem dX10_takeFrom_79 : decode cX10_takeFrom 79 = .ok (.getfield 28, 3) := by decide +kernel
theorem dX10_takeFrom_82 : decode cX10_takeFrom 82 = .ok (.iconst 0, 1) := by decide +kernel
theorem dX10_takeFrom_83 : decode cX10_takeFrom 83 = .ok (.bipush 7, 2) := by decide +kernel
theorem dX10_takeFrom_85 : decode cX10_takeFrom 85 = .ok (.invokestatic 50, 3) := by decide +kernel
theorem dX10_takeFrom_88 : decode cX10_takeFrom 88 = .ok (.aload_n 1, 1) := by decide +kernel
theorem dX10_takeFrom_89 : decode cX10_takeFrom 89 = .ok (.getfield 31, 3) := by decide +kernel
theorem dX10_takeFrom_92 : decode cX10_takeFrom 92 = .ok (.iconst 0, 1) := by decide +kernel
theorem dX10_takeFrom_93 : decode cX10_takeFrom 93 = .ok (.aload_n 0, 1) := by decide +kernel
theorem dX10_takeFrom_94 : decode cX10_takeFrom 94 = .ok (.getfield 31, 3) := by decide +kernel
theorem dX10_takeFrom_97 : decode cX10_takeFrom 97 = .ok (.iconst 0, 1) := by decide +kernel
theorem dX10_takeFrom_98 : decode cX10_takeFrom 98 = .ok (.bipush 7, 2) := by decide +kernel
theorem dX10_takeFrom_100 : decode cX10_takeFrom 100 = .ok (.invokestatic 50, 3) := by decide +kernel
theorem dX10_takeFrom_103 : decode cX10_takeFrom 103 = .ok (.aload_n 1, 1) := by decide +kernel
theorem dX10_takeFrom_104 : decode cX10_takeFrom 104 = .ok (.getfield 34, 3) := by decide +kernel
theorem dX10_takeFrom_107 : decode cX10_takeFrom 107 = .ok (.iconst 0, 1) := by decide +kernel
theorem dX10_takeFrom_108 : decode cX10_takeFrom 108 = .ok (.aload_n 0, 1) := by decide +kernel
theorem dX10_takeFrom_109 : decode cX10_takeFrom 109 = .ok (.getfield 34, 3) := by decide +kernel
theorem dX10_takeFrom_112 : decode cX10_takeFrom 112 = .ok (.iconst 0, 1) := by decide +kernel
theorem dX10_takeFrom_113 : decode cX10_takeFrom 113 = .ok (.bipush 35, 2) := by decide +kernel
theorem dX10_takeFrom_115 : decode cX10_takeFrom 115 = .ok (.invokestatic 50, 3) := by decide +kernel
theorem dX10_takeFrom_118 : decode cX10_takeFrom 118 = .ok (.return_, 1) := by decide +kernel
theorem dX10_hasOne_0 : decode cX10_hasOne 0 = .ok (.iload_n 1, 1) := by decide +kernel
theorem dX10_hasOne_1 : decode cX10_hasOne 1 = .ok (.ifCond .lt 15, 3) := by decide +kernel
theorem dX10_hasOne_4 : decode cX10_hasOne 4 = .ok (.iload_n 1, 1) := by decide +kernel
theorem dX10_hasOne_5 : decode cX10_hasOne 5 = .ok (.aload_n 0, 1) := by decide +kernel
theorem dX10_hasOne_6 : decode cX10_hasOne 6 = .ok (.getfield 43, 3) := by decide +kernel
theorem dX10_hasOne_9 : decode cX10_hasOne 9 = .ok (.if_icmp .ge 7, 3) := by decide +kernel
theorem dX10_hasOne_12 : decode cX10_hasOne 12 = .ok (.iconst 1, 1) := by decide +kernel
theorem dX10_hasOne_13 : decode cX10_hasOne 13 = .ok (.goto 4, 3) := by decide +kernel
theorem dX10_hasOne_16 : decode cX10_hasOne 16 = .ok (.iconst 0, 1) := by decide +kernel
theorem dX10_hasOne_17 : decode cX10_hasOne 17 = .ok (.ireturn, 1) := by decide +kernel
theorem dX10_remake_0 : decode cX10_remake 0 = .ok (.iload_n 1, 1) := by decide +kernel
theorem dX10_remake_1 : decode cX10_remake 1 = .ok (.invokestatic 56, 3) := by decide +kernel
theorem dX10_remake_4 : decode cX10_remake 4 = .ok (.ifCond .eq 22, 3) := by decide +kernel
theorem dX10_remake_7 : decode cX10_remake 7 = .ok (.iload_n 2, 1) := by decide +kernel
theorem dX10_remake_8 : decode cX10_remake 8 = .ok (.sipush 4095, 3) := by decide +kernel
theorem dX10_remake_11 : decode cX10_remake 11 = .ok (.invokestatic 60, 3) := by decide +kernel
theorem dX10_remake_14 : decode cX10_remake 14 = .ok (.ifCond .eq 12, 3) := by decide +kernel
theorem dX10_remake_17 : decode cX10_remake 17 = .ok (.iload_n 3, 1) := by decide +kernel
theorem dX10_remake_18 : decode cX10_remake 18 = .ok (.bipush 9, 2) := by decide +kernel
theorem dX10_remake_20 : decode cX10_remake 20 = .ok (.invokestatic 60, 3) := by decide +kernel
theorem dX10_remake_23 : decode cX10_remake 23 = .ok (.ifCond .ne 5, 3) := by decide +kernel
theorem dX10_remake_26 : decode cX10_remake 26 = .ok (.iconst 0, 1) := by decide +kernel
theorem dX10_remake_27 : decode cX10_remake 27 = .ok (.ireturn, 1) := by decide +kernel
theorem dX10_remake_28 : decode cX10_remake 28 = .ok (.aload_n 0, 1) := by decide +kernel
theorem dX10_remake_29 : decode cX10_remake 29 = .ok (.getfield 15, 3) := by decide +kernel
theorem dX10_remake_32 : decode cX10_remake 32 = .ok (.iload_n 1, 1) := by decide +kernel
theorem dX10_remake_33 : decode cX10_remake 33 = .ok (.iload_n 2, 1) := by decide +kernel
theorem dX10_remake_34 : decode cX10_remake 34 = .ok (.iastore, 1) := by decide +kernel
theorem dX10_remake_35 : decode cX10_remake 35 = .ok (.aload_n 0, 1) := by decide +kernel
theorem dX10_remake_36 : decode cX10_remake 36 = .ok (.getfield 19, 3) := by decide +kernel
theorem dX10_remake_39 : decode cX10_remake 39 = .ok (.iload_n 1, 1) := by decide +kernel
theorem dX10_remake_40 : decode cX10_remake 40 = .ok (.iload_n 3, 1) := by decide +kernel
theorem dX10_remake_41 : decode cX10_remake 41 = .ok (.iastore, 1) := by decide +kernel
theorem dX10_remake_42 : decode cX10_remake 42 = .ok (.iconst 1, 1) := by decide +kernel
theorem dX10_remake_43 : decode cX10_remake 43 = .ok (.ireturn, 1) := by decide +kernel
theorem dX10_arrive_0 : decode cX10_arrive 0 = .ok (.aload_n 0, 1) := by decide +kernel
theorem dX10_arrive_1 : decode cX10_arrive 1 = .ok (.getfield 43, 3) := by decide +kernel
theorem dX10_arrive_4 : decode cX10_arrive 4 = .ok (.bipush 7, 2) := by decide +kernel
theorem dX10_arrive_6 : decode cX10_arrive 6 = .ok (.if_icmp .ge 28, 3) := by decide +kernel
theorem dX10_arrive_9 : decode cX10_arrive 9 = .ok (.iload_n 1, 1) := by decide +kernel
theorem dX10_arrive_10 : decode cX10_arrive 10 = .ok (.bipush 7, 2) := by decide +kernel
theorem dX10_arrive_12 : decode cX10_arrive 12 = .ok (.invokestatic 60, 3) := by decide +kernel
theorem dX10_arrive_15 : decode cX10_arrive 15 = .ok (.ifCond .eq 19, 3) := by decide +kernel
theorem dX10_arrive_18 : decode cX10_arrive 18 = .ok (.iload_n 2, 1) := by decide +kernel
theorem dX10_arrive_19 : decode cX10_arrive 19 = .ok (.bipush 9, 2) := by decide +kernel
theorem dX10_arrive_21 : decode cX10_arrive 21 = .ok (.invokestatic 60, 3) := by decide +kernel
theorem dX10_arrive_24 : decode cX10_arrive 24 = .ok (.ifCond .eq 10, 3) := by decide +kernel
theorem dX10_arrive_27 : decode cX10_arrive 27 = .ok (.iload_n 3, 1) := by decide +kernel
theorem dX10_arrive_28 : decode cX10_arrive 28 = .ok (.invokestatic 64, 3) := by decide +kernel
theorem dX10_arrive_31 : decode cX10_arrive 31 = .ok (.ifCond .ne 5, 3) := by decide +kernel
theorem dX10_arrive_34 : decode cX10_arrive 34 = .ok (.iconst 0, 1) := by decide +kernel
theorem dX10_arrive_35 : decode cX10_arrive 35 = .ok (.ireturn, 1) := by decide +kernel
theorem dX10_arrive_36 : decode cX10_arrive 36 = .ok (.aload_n 0, 1) := by decide +kernel
theorem dX10_arrive_37 : decode cX10_arrive 37 = .ok (.getfield 25, 3) := by decide +kernel
theorem dX10_arrive_40 : decode cX10_arrive 40 = .ok (.aload_n 0, 1) := by decide +kernel
theorem dX10_arrive_41 : decode cX10_arrive 41 = .ok (.getfield 43, 3) := by decide +kernel
theorem dX10_arrive_44 : decode cX10_arrive 44 = .ok (.iload_n 1, 1) := by decide +kernel
theorem dX10_arrive_45 : decode cX10_arrive 45 = .ok (.iastore, 1) := by decide +kernel
theorem dX10_arrive_46 : decode cX10_arrive 46 = .ok (.aload_n 0, 1) := by decide +kernel
theorem dX10_arrive_47 : decode cX10_arrive 47 = .ok (.getfield 28, 3) := by decide +kernel
theorem dX10_arrive_50 : decode cX10_arrive 50 = .ok (.aload_n 0, 1) := by decide +kernel
theorem dX10_arrive_51 : decode cX10_arrive 51 = .ok (.getfield 43, 3) := by decide +kernel
theorem dX10_arrive_54 : decode cX10_arrive 54 = .ok (.iload_n 2, 1) := by decide +kernel
theorem dX10_arrive_55 : decode cX10_arrive 55 = .ok (.iastore, 1) := by decide +kernel
theorem dX10_arrive_56 : decode cX10_arrive 56 = .ok (.aload_n 0, 1) := by decide +kernel
theorem dX10_arrive_57 : decode cX10_arrive 57 = .ok (.getfield 31, 3) := by decide +kernel
theorem dX10_arrive_60 : decode cX10_arrive 60 = .ok (.aload_n 0, 1) := by decide +kernel
theorem dX10_arrive_61 : decode cX10_arrive 61 = .ok (.getfield 43, 3) := by decide +kernel
theorem dX10_arrive_64 : decode cX10_arrive 64 = .ok (.iload_n 3, 1) := by decide +kernel
theorem dX10_arrive_65 : decode cX10_arrive 65 = .ok (.iastore, 1) := by decide +kernel
theorem dX10_arrive_66 : decode cX10_arrive 66 = .ok (.aload_n 0, 1) := by decide +kernel
theorem dX10_arrive_67 : decode cX10_arrive 67 = .ok (.dup, 1) := by decide +kernel
theorem dX10_arrive_68 : decode cX10_arrive 68 = .ok (.getfield 43, 3) := by decide +kernel
theorem dX10_arrive_71 : decode cX10_arrive 71 = .ok (.iconst 1, 1) := by decide +kernel
theorem dX10_arrive_72 : decode cX10_arrive 72 = .ok (.iadd, 1) := by decide +kernel
theorem dX10_arrive_73 : decode cX10_arrive 73 = .ok (.putfield 43, 3) := by decide +kernel
theorem dX10_arrive_76 : decode cX10_arrive 76 = .ok (.iconst 1, 1) := by decide +kernel
theorem dX10_arrive_77 : decode cX10_arrive 77 = .ok (.ireturn, 1) := by decide +kernel
theorem dX10_turnFact_0 : decode cX10_turnFact 0 = .ok (.aload_n 0, 1) := by decide +kernel
theorem dX10_turnFact_1 : decode cX10_turnFact 1 = .ok (.iload_n 1, 1) := by decide +kernel
theorem dX10_turnFact_2 : decode cX10_turnFact 2 = .ok (.invokevirtual 67, 3) := by decide +kernel
theorem dX10_turnFact_5 : decode cX10_turnFact 5 = .ok (.ifCond .eq 19, 3) := by decide +kernel
theorem dX10_turnFact_8 : decode cX10_turnFact 8 = .ok (.iload_n 2, 1) := by decide +kernel
theorem dX10_turnFact_9 : decode cX10_turnFact 9 = .ok (.invokestatic 56, 3) := by decide +kernel
theorem dX10_turnFact_12 : decode cX10_turnFact 12 = .ok (.ifCond .eq 12, 3) := by decide +kernel
theorem dX10_turnFact_15 : decode cX10_turnFact 15 = .ok (.iload_n 3, 1) := by decide +kernel
theorem dX10_turnFact_16 : decode cX10_turnFact 16 = .ok (.bipush 11, 2) := by decide +kernel
theorem dX10_turnFact_18 : decode cX10_turnFact 18 = .ok (.invokestatic 60, 3) := by decide +kernel
theorem dX10_turnFact_21 : decode cX10_turnFact 21 = .ok (.ifCond .ne 5, 3) := by decide +kernel
theorem dX10_turnFact_24 : decode cX10_turnFact 24 = .ok (.iconst 0, 1) := by decide +kernel
theorem dX10_turnFact_25 : decode cX10_turnFact 25 = .ok (.ireturn, 1) := by decide +kernel
theorem dX10_turnFact_26 : decode cX10_turnFact 26 = .ok (.aload_n 0, 1) := by decide +kernel
theorem dX10_turnFact_27 : decode cX10_turnFact 27 = .ok (.getfield 34, 3) := by decide +kernel
theorem dX10_turnFact_30 : decode cX10_turnFact 30 = .ok (.iload_n 1, 1) := by decide +kernel
theorem dX10_turnFact_31 : decode cX10_turnFact 31 = .ok (.iconst 5, 1) := by decide +kernel
theorem dX10_turnFact_32 : decode cX10_turnFact 32 = .ok (.imul, 1) := by decide +kernel
theorem dX10_turnFact_33 : decode cX10_turnFact 33 = .ok (.iload_n 2, 1) := by decide +kernel
theorem dX10_turnFact_34 : decode cX10_turnFact 34 = .ok (.iadd, 1) := by decide +kernel
theorem dX10_turnFact_35 : decode cX10_turnFact 35 = .ok (.dup2, 1) := by decide +kernel
theorem dX10_turnFact_36 : decode cX10_turnFact 36 = .ok (.iaload, 1) := by decide +kernel
theorem dX10_turnFact_37 : decode cX10_turnFact 37 = .ok (.iconst 1, 1) := by decide +kernel
theorem dX10_turnFact_38 : decode cX10_turnFact 38 = .ok (.iload_n 3, 1) := by decide +kernel
theorem dX10_turnFact_39 : decode cX10_turnFact 39 = .ok (.ishl, 1) := by decide +kernel
theorem dX10_turnFact_40 : decode cX10_turnFact 40 = .ok (.ixor, 1) := by decide +kernel
theorem dX10_turnFact_41 : decode cX10_turnFact 41 = .ok (.iastore, 1) := by decide +kernel
theorem dX10_turnFact_42 : decode cX10_turnFact 42 = .ok (.iconst 1, 1) := by decide +kernel
theorem dX10_turnFact_43 : decode cX10_turnFact 43 = .ok (.ireturn, 1) := by decide +kernel
theorem dX10_handOver_0 : decode cX10_handOver 0 = .ok (.iload_n 1, 1) := by decide +kernel
theorem dX10_handOver_1 : decode cX10_handOver 1 = .ok (.invokestatic 56, 3) := by decide +kernel
theorem dX10_handOver_4 : decode cX10_handOver 4 = .ok (.ifCond .eq 17, 3) := by decide +kernel
theorem dX10_handOver_7 : decode cX10_handOver 7 = .ok (.aload_n 0, 1) := by decide +kernel
theorem dX10_handOver_8 : decode cX10_handOver 8 = .ok (.iload_n 2, 1) := by decide +kernel
theorem dX10_handOver_9 : decode cX10_handOver 9 = .ok (.invokevirtual 67, 3) := by decide +kernel
theorem dX10_handOver_12 : decode cX10_handOver 12 = .ok (.ifCond .ne 11, 3) := by decide +kernel
theorem dX10_handOver_15 : decode cX10_handOver 15 = .ok (.iload_n 2, 1) := by decide +kernel
theorem dX10_handOver_16 : decode cX10_handOver 16 = .ok (.bipush 9, 2) := by decide +kernel
theorem dX10_handOver_18 : decode cX10_handOver 18 = .ok (.if_icmp .eq 5, 3) := by decide +kernel
theorem dX10_handOver_21 : decode cX10_handOver 21 = .ok (.iconst 0, 1) := by decide +kernel
theorem dX10_handOver_22 : decode cX10_handOver 22 = .ok (.ireturn, 1) := by decide +kernel
theorem dX10_handOver_23 : decode cX10_handOver 23 = .ok (.aload_n 0, 1) := by decide +kernel
theorem dX10_handOver_24 : decode cX10_handOver 24 = .ok (.getfield 22, 3) := by decide +kernel
theorem dX10_handOver_27 : decode cX10_handOver 27 = .ok (.iload_n 1, 1) := by decide +kernel
theorem dX10_handOver_28 : decode cX10_handOver 28 = .ok (.iload_n 2, 1) := by decide +kernel
theorem dX10_handOver_29 : decode cX10_handOver 29 = .ok (.iastore, 1) := by decide +kernel
theorem dX10_handOver_30 : decode cX10_handOver 30 = .ok (.iconst 1, 1) := by decide +kernel
theorem dX10_handOver_31 : decode cX10_handOver 31 = .ok (.ireturn, 1) := by decide +kernel
theorem dX10_turnTo_0 : decode cX10_turnTo 0 = .ok (.aload_n 0, 1) := by decide +kernel
theorem dX10_turnTo_1 : decode cX10_turnTo 1 = .ok (.iload_n 1, 1) := by decide +kernel
theorem dX10_turnTo_2 : decode cX10_turnTo 2 = .ok (.invokevirtual 67, 3) := by decide +kernel
theorem dX10_turnTo_5 : decode cX10_turnTo 5 = .ok (.ifCond .eq 10, 3) := by decide +kernel
theorem dX10_turnTo_8 : decode cX10_turnTo 8 = .ok (.iload_n 2, 1) := by decide +kernel
theorem dX10_turnTo_9 : decode cX10_turnTo 9 = .ok (.invokestatic 64, 3) := by decide +kernel
theorem dX10_turnTo_12 : decode cX10_turnTo 12 = .ok (.ifCond .ne 5, 3) := by decide +kernel
theorem dX10_turnTo_15 : decode cX10_turnTo 15 = .ok (.iconst 0, 1) := by decide +kernel
theorem dX10_turnTo_16 : decode cX10_turnTo 16 = .ok (.ireturn, 1) := by decide +kernel
theorem dX10_turnTo_17 : decode cX10_turnTo 17 = .ok (.aload_n 0, 1) := by decide +kernel
theorem dX10_turnTo_18 : decode cX10_turnTo 18 = .ok (.getfield 31, 3) := by decide +kernel
theorem dX10_turnTo_21 : decode cX10_turnTo 21 = .ok (.iload_n 1, 1) := by decide +kernel
theorem dX10_turnTo_22 : decode cX10_turnTo 22 = .ok (.iload_n 2, 1) := by decide +kernel
theorem dX10_turnTo_23 : decode cX10_turnTo 23 = .ok (.iastore, 1) := by decide +kernel
theorem dX10_turnTo_24 : decode cX10_turnTo 24 = .ok (.iconst 1, 1) := by decide +kernel
theorem dX10_turnTo_25 : decode cX10_turnTo 25 = .ok (.ireturn, 1) := by decide +kernel
theorem dX10_goOn_0 : decode cX10_goOn 0 = .ok (.iload_n 1, 1) := by decide +kernel
theorem dX10_goOn_1 : decode cX10_goOn 1 = .ok (.iconst 1, 1) := by decide +kernel
theorem dX10_goOn_2 : decode cX10_goOn 2 = .ok (.if_icmp .lt 21, 3) := by decide +kernel
theorem dX10_goOn_5 : decode cX10_goOn 5 = .ok (.iload_n 1, 1) := by decide +kernel
theorem dX10_goOn_6 : decode cX10_goOn 6 = .ok (.bipush 60, 2) := by decide +kernel
theorem dX10_goOn_8 : decode cX10_goOn 8 = .ok (.if_icmp .gt 15, 3) := by decide +kernel
theorem dX10_goOn_11 : decode cX10_goOn 11 = .ok (.aload_n 0, 1) := by decide +kernel
theorem dX10_goOn_12 : decode cX10_goOn 12 = .ok (.getfield 47, 3) := by decide +kernel
theorem dX10_goOn_15 : decode cX10_goOn 15 = .ok (.iload_n 1, 1) := by decide +kernel
theorem dX10_goOn_16 : decode cX10_goOn 16 = .ok (.iadd, 1) := by decide +kernel
theorem dX10_goOn_17 : decode cX10_goOn 17 = .ok (.sipush 999, 3) := by decide +kernel
theorem dX10_goOn_20 : decode cX10_goOn 20 = .ok (.if_icmp .le 5, 3) := by decide +kernel
theorem dX10_goOn_23 : decode cX10_goOn 23 = .ok (.iconst 0, 1) := by decide +kernel
theorem dX10_goOn_24 : decode cX10_goOn 24 = .ok (.ireturn, 1) := by decide +kernel
theorem dX10_goOn_25 : decode cX10_goOn 25 = .ok (.iconst 0, 1) := by decide +kernel
theorem dX10_goOn_26 : decode cX10_goOn 26 = .ok (.istore_n 2, 1) := by decide +kernel
theorem dX10_goOn_27 : decode cX10_goOn 27 = .ok (.iload_n 2, 1) := by decide +kernel
theorem dX10_goOn_28 : decode cX10_goOn 28 = .ok (.iload_n 1, 1) := by decide +kernel
theorem dX10_goOn_29 : decode cX10_goOn 29 = .ok (.if_icmp .ge 14, 3) := by decide +kernel
theorem dX10_goOn_32 : decode cX10_goOn 32 = .ok (.aload_n 0, 1) := by decide +kernel
theorem dX10_goOn_33 : decode cX10_goOn 33 = .ok (.invokevirtual 70, 3) := by decide +kernel
theorem dX10_goOn_36 : decode cX10_goOn 36 = .ok (.pop, 1) := by decide +kernel
theorem dX10_goOn_37 : decode cX10_goOn 37 = .ok (.iinc 2 1, 3) := by decide +kernel
theorem dX10_goOn_40 : decode cX10_goOn 40 = .ok (.goto (-13), 3) := by decide +kernel
theorem dX10_goOn_43 : decode cX10_goOn 43 = .ok (.iconst 1, 1) := by decide +kernel
theorem dX10_goOn_44 : decode cX10_goOn 44 = .ok (.ireturn, 1) := by decide +kernel
theorem dX10_tale_0 : decode cX10_tale 0 = .ok (.aload_n 0, 1) := by decide +kernel
theorem dX10_tale_1 : decode cX10_tale 1 = .ok (.iload_n 1, 1) := by decide +kernel
theorem dX10_tale_2 : decode cX10_tale 2 = .ok (.iload_n 2, 1) := by decide +kernel
theorem dX10_tale_3 : decode cX10_tale 3 = .ok (.aload_n 0, 1) := by decide +kernel
theorem dX10_tale_4 : decode cX10_tale 4 = .ok (.getfield 34, 3) := by decide +kernel
theorem dX10_tale_7 : decode cX10_tale 7 = .ok (.iload_n 1, 1) := by decide +kernel
theorem dX10_tale_8 : decode cX10_tale 8 = .ok (.iconst 5, 1) := by decide +kernel
theorem dX10_tale_9 : decode cX10_tale 9 = .ok (.imul, 1) := by decide +kernel
theorem dX10_tale_10 : decode cX10_tale 10 = .ok (.iload_n 2, 1) := by decide +kernel
theorem dX10_tale_11 : decode cX10_tale 11 = .ok (.iadd, 1) := by decide +kernel
theorem dX10_tale_12 : decode cX10_tale 12 = .ok (.iaload, 1) := by decide +kernel
theorem dX10_tale_13 : decode cX10_tale 13 = .ok (.invokevirtual 74, 3) := by decide +kernel
theorem dX10_tale_16 : decode cX10_tale 16 = .ok (.ireturn, 1) := by decide +kernel
theorem dX10_taleWith_0 : decode cX10_taleWith 0 = .ok (.aload_n 0, 1) := by decide +kernel
theorem dX10_taleWith_1 : decode cX10_taleWith 1 = .ok (.getfield 9, 3) := by decide +kernel
theorem dX10_taleWith_4 : decode cX10_taleWith 4 = .ok (.aload_n 0, 1) := by decide +kernel
theorem dX10_taleWith_5 : decode cX10_taleWith 5 = .ok (.getfield 25, 3) := by decide +kernel
theorem dX10_taleWith_8 : decode cX10_taleWith 8 = .ok (.iload_n 1, 1) := by decide +kernel
theorem dX10_taleWith_9 : decode cX10_taleWith 9 = .ok (.iaload, 1) := by decide +kernel
theorem dX10_taleWith_10 : decode cX10_taleWith 10 = .ok (.aaload, 1) := by decide +kernel
theorem dX10_taleWith_11 : decode cX10_taleWith 11 = .ok (.aload_n 0, 1) := by decide +kernel
theorem dX10_taleWith_12 : decode cX10_taleWith 12 = .ok (.getfield 28, 3) := by decide +kernel
theorem dX10_taleWith_15 : decode cX10_taleWith 15 = .ok (.iload_n 1, 1) := by decide +kernel
theorem dX10_taleWith_16 : decode cX10_taleWith 16 = .ok (.iaload, 1) := by decide +kernel
theorem dX10_taleWith_17 : decode cX10_taleWith 17 = .ok (.iload_n 3, 1) := by decide +kernel
theorem dX10_taleWith_18 : decode cX10_taleWith 18 = .ok (.aload_n 0, 1) := by decide +kernel
theorem dX10_taleWith_19 : decode cX10_taleWith 19 = .ok (.getfield 15, 3) := by decide +kernel
theorem dX10_taleWith_22 : decode cX10_taleWith 22 = .ok (.iload_n 2, 1) := by decide +kernel
theorem dX10_taleWith_23 : decode cX10_taleWith 23 = .ok (.iaload, 1) := by decide +kernel
theorem dX10_taleWith_24 : decode cX10_taleWith 24 = .ok (.iand, 1) := by decide +kernel
theorem dX10_taleWith_25 : decode cX10_taleWith 25 = .ok (.iload_n 3, 1) := by decide +kernel
theorem dX10_taleWith_26 : decode cX10_taleWith 26 = .ok (.aload_n 0, 1) := by decide +kernel
theorem dX10_taleWith_27 : decode cX10_taleWith 27 = .ok (.getfield 15, 3) := by decide +kernel
theorem dX10_taleWith_30 : decode cX10_taleWith 30 = .ok (.iload_n 2, 1) := by decide +kernel
theorem dX10_taleWith_31 : decode cX10_taleWith 31 = .ok (.iaload, 1) := by decide +kernel
theorem dX10_taleWith_32 : decode cX10_taleWith 32 = .ok (.iconst (-1), 1) := by decide +kernel
theorem dX10_taleWith_33 : decode cX10_taleWith 33 = .ok (.ixor, 1) := by decide +kernel
theorem dX10_taleWith_34 : decode cX10_taleWith 34 = .ok (.iand, 1) := by decide +kernel
theorem dX10_taleWith_35 : decode cX10_taleWith 35 = .ok (.invokevirtual 78, 3) := by decide +kernel
theorem dX10_taleWith_38 : decode cX10_taleWith 38 = .ok (.ireturn, 1) := by decide +kernel
theorem dX10_lessons_0 : decode cX10_lessons 0 = .ok (.aload_n 0, 1) := by decide +kernel
theorem dX10_lessons_1 : decode cX10_lessons 1 = .ok (.getfield 31, 3) := by decide +kernel
theorem dX10_lessons_4 : decode cX10_lessons 4 = .ok (.iload_n 1, 1) := by decide +kernel
theorem dX10_lessons_5 : decode cX10_lessons 5 = .ok (.iaload, 1) := by decide +kernel
theorem dX10_lessons_6 : decode cX10_lessons 6 = .ok (.istore_n 3, 1) := by decide +kernel
theorem dX10_lessons_7 : decode cX10_lessons 7 = .ok (.iload_n 3, 1) := by decide +kernel
theorem dX10_lessons_8 : decode cX10_lessons 8 = .ok (.invokestatic 56, 3) := by decide +kernel
theorem dX10_lessons_11 : decode cX10_lessons 11 = .ok (.ifCond .eq 42, 3) := by decide +kernel
theorem dX10_lessons_14 : decode cX10_lessons 14 = .ok (.aload_n 0, 1) := by decide +kernel
theorem dX10_lessons_15 : decode cX10_lessons 15 = .ok (.getfield 9, 3) := by decide +kernel
theorem dX10_lessons_18 : decode cX10_lessons 18 = .ok (.aload_n 0, 1) := by decide +kernel
theorem dX10_lessons_19 : decode cX10_lessons 19 = .ok (.getfield 25, 3) := by decide +kernel
theorem dX10_lessons_22 : decode cX10_lessons 22 = .ok (.iload_n 1, 1) := by decide +kernel
theorem dX10_lessons_23 : decode cX10_lessons 23 = .ok (.iaload, 1) := by decide +kernel
theorem dX10_lessons_24 : decode cX10_lessons 24 = .ok (.aaload, 1) := by decide +kernel
theorem dX10_lessons_25 : decode cX10_lessons 25 = .ok (.aload_n 0, 1) := by decide +kernel
theorem dX10_lessons_26 : decode cX10_lessons 26 = .ok (.getfield 28, 3) := by decide +kernel
theorem dX10_lessons_29 : decode cX10_lessons 29 = .ok (.iload_n 1, 1) := by decide +kernel
theorem dX10_lessons_30 : decode cX10_lessons 30 = .ok (.iaload, 1) := by decide +kernel
theorem dX10_lessons_31 : decode cX10_lessons 31 = .ok (.iload_n 2, 1) := by decide +kernel
theorem dX10_lessons_32 : decode cX10_lessons 32 = .ok (.aload_n 0, 1) := by decide +kernel
theorem dX10_lessons_33 : decode cX10_lessons 33 = .ok (.getfield 22, 3) := by decide +kernel
theorem dX10_lessons_36 : decode cX10_lessons 36 = .ok (.iload_n 3, 1) := by decide +kernel
theorem dX10_lessons_37 : decode cX10_lessons 37 = .ok (.iaload, 1) := by decide +kernel
theorem dX10_lessons_38 : decode cX10_lessons 38 = .ok (.iload_n 1, 1) := by decide +kernel
theorem dX10_lessons_39 : decode cX10_lessons 39 = .ok (.if_icmp .ne 7, 3) := by decide +kernel
theorem dX10_lessons_42 : decode cX10_lessons 42 = .ok (.iconst 1, 1) := by decide +kernel
theorem dX10_lessons_43 : decode cX10_lessons 43 = .ok (.goto 4, 3) := by decide +kernel
theorem dX10_lessons_46 : decode cX10_lessons 46 = .ok (.iconst 0, 1) := by decide +kernel
theorem dX10_lessons_47 : decode cX10_lessons 47 = .ok (.invokevirtual 83, 3) := by decide +kernel
theorem dX10_lessons_50 : decode cX10_lessons 50 = .ok (.goto 4, 3) := by decide +kernel
theorem dX10_lessons_53 : decode cX10_lessons 53 = .ok (.iconst 0, 1) := by decide +kernel
theorem dX10_lessons_54 : decode cX10_lessons 54 = .ok (.ireturn, 1) := by decide +kernel
theorem dX10_ownedBy_0 : decode cX10_ownedBy 0 = .ok (.iconst 0, 1) := by decide +kernel
theorem dX10_ownedBy_1 : decode cX10_ownedBy 1 = .ok (.istore_n 2, 1) := by decide +kernel
theorem dX10_ownedBy_2 : decode cX10_ownedBy 2 = .ok (.iconst 0, 1) := by decide +kernel
theorem dX10_ownedBy_3 : decode cX10_ownedBy 3 = .ok (.istore_n 3, 1) := by decide +kernel
theorem dX10_ownedBy_4 : decode cX10_ownedBy 4 = .ok (.iload_n 3, 1) := by decide +kernel
theorem dX10_ownedBy_5 : decode cX10_ownedBy 5 = .ok (.iconst 5, 1) := by decide +kernel
theorem dX10_ownedBy_6 : decode cX10_ownedBy 6 = .ok (.if_icmp .ge 25, 3) := by decide +kernel
theorem dX10_ownedBy_9 : decode cX10_ownedBy 9 = .ok (.aload_n 0, 1) := by decide +kernel
theorem dX10_ownedBy_10 : decode cX10_ownedBy 10 = .ok (.getfield 22, 3) := by decide +kernel
theorem dX10_ownedBy_13 : decode cX10_ownedBy 13 = .ok (.iload_n 3, 1) := by decide +kernel
theorem dX10_ownedBy_14 : decode cX10_ownedBy 14 = .ok (.iaload, 1) := by decide +kernel
theorem dX10_ownedBy_15 : decode cX10_ownedBy 15 = .ok (.iload_n 1, 1) := by decide +kernel
theorem dX10_ownedBy_16 : decode cX10_ownedBy 16 = .ok (.if_icmp .ne 9, 3) := by decide +kernel
theorem dX10_ownedBy_19 : decode cX10_ownedBy 19 = .ok (.iload_n 2, 1) := by decide +kernel
theorem dX10_ownedBy_20 : decode cX10_ownedBy 20 = .ok (.iconst 1, 1) := by decide +kernel
theorem dX10_ownedBy_21 : decode cX10_ownedBy 21 = .ok (.iload_n 3, 1) := by decide +kernel
theorem dX10_ownedBy_22 : decode cX10_ownedBy 22 = .ok (.ishl, 1) := by decide +kernel
theorem dX10_ownedBy_23 : decode cX10_ownedBy 23 = .ok (.ior, 1) := by decide +kernel
theorem dX10_ownedBy_24 : decode cX10_ownedBy 24 = .ok (.istore_n 2, 1) := by decide +kernel
theorem dX10_ownedBy_25 : decode cX10_ownedBy 25 = .ok (.iinc 3 1, 3) := by decide +kernel
theorem dX10_ownedBy_28 : decode cX10_ownedBy 28 = .ok (.goto (-24), 3) := by decide +kernel
theorem dX10_ownedBy_31 : decode cX10_ownedBy 31 = .ok (.iload_n 2, 1) := by decide +kernel
theorem dX10_ownedBy_32 : decode cX10_ownedBy 32 = .ok (.ireturn, 1) := by decide +kernel
theorem dX10_ownedThings_0 : decode cX10_ownedThings 0 = .ok (.bipush 31, 2) := by decide +kernel
theorem dX10_ownedThings_2 : decode cX10_ownedThings 2 = .ok (.aload_n 0, 1) := by decide +kernel
theorem dX10_ownedThings_3 : decode cX10_ownedThings 3 = .ok (.bipush 9, 2) := by decide +kernel
theorem dX10_ownedThings_5 : decode cX10_ownedThings 5 = .ok (.invokevirtual 87, 3) := by decide +kernel
theorem dX10_ownedThings_8 : decode cX10_ownedThings 8 = .ok (.iconst (-1), 1) := by decide +kernel
theorem dX10_ownedThings_9 : decode cX10_ownedThings 9 = .ok (.ixor, 1) := by decide +kernel
theorem dX10_ownedThings_10 : decode cX10_ownedThings 10 = .ok (.iand, 1) := by decide +kernel
theorem dX10_ownedThings_11 : decode cX10_ownedThings 11 = .ok (.ireturn, 1) := by decide +kernel
theorem dX10_wealth_0 : decode cX10_wealth 0 = .ok (.iconst 0, 1) := by decide +kernel
theorem dX10_wealth_1 : decode cX10_wealth 1 = .ok (.istore_n 2, 1) := by decide +kernel
theorem dX10_wealth_2 : decode cX10_wealth 2 = .ok (.iconst 0, 1) := by decide +kernel
theorem dX10_wealth_3 : decode cX10_wealth 3 = .ok (.istore_n 3, 1) := by decide +kernel
theorem dX10_wealth_4 : decode cX10_wealth 4 = .ok (.iload_n 3, 1) := by decide +kernel
theorem dX10_wealth_5 : decode cX10_wealth 5 = .ok (.iconst 5, 1) := by decide +kernel
theorem dX10_wealth_6 : decode cX10_wealth 6 = .ok (.if_icmp .ge 28, 3) := by decide +kernel
theorem dX10_wealth_9 : decode cX10_wealth 9 = .ok (.aload_n 0, 1) := by decide +kernel
theorem dX10_wealth_10 : decode cX10_wealth 10 = .ok (.getfield 22, 3) := by decide +kernel
theorem dX10_wealth_13 : decode cX10_wealth 13 = .ok (.iload_n 3, 1) := by decide +kernel
theorem dX10_wealth_14 : decode cX10_wealth 14 = .ok (.iaload, 1) := by decide +kernel
theorem dX10_wealth_15 : decode cX10_wealth 15 = .ok (.iload_n 1, 1) := by decide +kernel
theorem dX10_wealth_16 : decode cX10_wealth 16 = .ok (.if_icmp .ne 12, 3) := by decide +kernel
theorem dX10_wealth_19 : decode cX10_wealth 19 = .ok (.iload_n 2, 1) := by decide +kernel
theorem dX10_wealth_20 : decode cX10_wealth 20 = .ok (.aload_n 0, 1) := by decide +kernel
theorem dX10_wealth_21 : decode cX10_wealth 21 = .ok (.getfield 19, 3) := by decide +kernel
theorem dX10_wealth_24 : decode cX10_wealth 24 = .ok (.iload_n 3, 1) := by decide +kernel
theorem dX10_wealth_25 : decode cX10_wealth 25 = .ok (.iaload, 1) := by decide +kernel
theorem dX10_wealth_26 : decode cX10_wealth 26 = .ok (.iadd, 1) := by decide +kernel
theorem dX10_wealth_27 : decode cX10_wealth 27 = .ok (.istore_n 2, 1) := by decide +kernel
theorem dX10_wealth_28 : decode cX10_wealth 28 = .ok (.iinc 3 1, 3) := by decide +kernel
theorem dX10_wealth_31 : decode cX10_wealth 31 = .ok (.goto (-27), 3) := by decide +kernel
theorem dX10_wealth_34 : decode cX10_wealth 34 = .ok (.iload_n 2, 1) := by decide +kernel
theorem dX10_wealth_35 : decode cX10_wealth 35 = .ok (.ireturn, 1) := by decide +kernel
theorem dX10_allWorth_0 : decode cX10_allWorth 0 = .ok (.iconst 0, 1) := by decide +kernel
theorem dX10_allWorth_1 : decode cX10_allWorth 1 = .ok (.istore_n 1, 1) := by decide +kernel
theorem dX10_allWorth_2 : decode cX10_allWorth 2 = .ok (.iconst 0, 1) := by decide +kernel
theorem dX10_allWorth_3 : decode cX10_allWorth 3 = .ok (.istore_n 2, 1) := by decide +kernel
theorem dX10_allWorth_4 : decode cX10_allWorth 4 = .ok (.iload_n 2, 1) := by decide +kernel
theorem dX10_allWorth_5 : decode cX10_allWorth 5 = .ok (.iconst 5, 1) := by decide +kernel
theorem dX10_allWorth_6 : decode cX10_allWorth 6 = .ok (.if_icmp .ge 18, 3) := by decide +kernel
theorem dX10_allWorth_9 : decode cX10_allWorth 9 = .ok (.iload_n 1, 1) := by decide +kernel
theorem dX10_allWorth_10 : decode cX10_allWorth 10 = .ok (.aload_n 0, 1) := by decide +kernel
theorem dX10_allWorth_11 : decode cX10_allWorth 11 = .ok (.getfield 19, 3) := by decide +kernel
theorem dX10_allWorth_14 : decode cX10_allWorth 14 = .ok (.iload_n 2, 1) := by decide +kernel
theorem dX10_allWorth_15 : decode cX10_allWorth 15 = .ok (.iaload, 1) := by decide +kernel
theorem dX10_allWorth_16 : decode cX10_allWorth 16 = .ok (.iadd, 1) := by decide +kernel
theorem dX10_allWorth_17 : decode cX10_allWorth 17 = .ok (.istore_n 1, 1) := by decide +kernel
theorem dX10_allWorth_18 : decode cX10_allWorth 18 = .ok (.iinc 2 1, 3) := by decide +kernel
theorem dX10_allWorth_21 : decode cX10_allWorth 21 = .ok (.goto (-17), 3) := by decide +kernel
theorem dX10_allWorth_24 : decode cX10_allWorth 24 = .ok (.iload_n 1, 1) := by decide +kernel
theorem dX10_allWorth_25 : decode cX10_allWorth 25 = .ok (.ireturn, 1) := by decide +kernel
theorem dX10_allKnown_0 : decode cX10_allKnown 0 = .ok (.iconst 0, 1) := by decide +kernel
theorem dX10_allKnown_1 : decode cX10_allKnown 1 = .ok (.istore_n 1, 1) := by decide +kernel
theorem dX10_allKnown_2 : decode cX10_allKnown 2 = .ok (.iconst 0, 1) := by decide +kernel
theorem dX10_allKnown_3 : decode cX10_allKnown 3 = .ok (.istore_n 2, 1) := by decide +kernel
theorem dX10_allKnown_4 : decode cX10_allKnown 4 = .ok (.iload_n 2, 1) := by decide +kernel
theorem dX10_allKnown_5 : decode cX10_allKnown 5 = .ok (.aload_n 0, 1) := by decide +kernel
theorem dX10_allKnown_6 : decode cX10_allKnown 6 = .ok (.getfield 43, 3) := by decide +kernel
theorem dX10_allKnown_9 : decode cX10_allKnown 9 = .ok (.iconst 5, 1) := by decide +kernel
theorem dX10_allKnown_10 : decode cX10_allKnown 10 = .ok (.imul, 1) := by decide +kernel
theorem dX10_allKnown_11 : decode cX10_allKnown 11 = .ok (.if_icmp .ge 21, 3) := by decide +kernel
theorem dX10_allKnown_14 : decode cX10_allKnown 14 = .ok (.iload_n 1, 1) := by decide +kernel
theorem dX10_allKnown_15 : decode cX10_allKnown 15 = .ok (.aload_n 0, 1) := by decide +kernel
theorem dX10_allKnown_16 : decode cX10_allKnown 16 = .ok (.getfield 34, 3) := by decide +kernel
theorem dX10_allKnown_19 : decode cX10_allKnown 19 = .ok (.iload_n 2, 1) := by decide +kernel
theorem dX10_allKnown_20 : decode cX10_allKnown 20 = .ok (.iaload, 1) := by decide +kernel
theorem dX10_allKnown_21 : decode cX10_allKnown 21 = .ok (.invokestatic 91, 3) := by decide +kernel
theorem dX10_allKnown_24 : decode cX10_allKnown 24 = .ok (.iadd, 1) := by decide +kernel
theorem dX10_allKnown_25 : decode cX10_allKnown 25 = .ok (.istore_n 1, 1) := by decide +kernel
theorem dX10_allKnown_26 : decode cX10_allKnown 26 = .ok (.iinc 2 1, 3) := by decide +kernel
theorem dX10_allKnown_29 : decode cX10_allKnown 29 = .ok (.goto (-25), 3) := by decide +kernel
theorem dX10_allKnown_32 : decode cX10_allKnown 32 = .ok (.iload_n 1, 1) := by decide +kernel
theorem dX10_allKnown_33 : decode cX10_allKnown 33 = .ok (.ireturn, 1) := by decide +kernel
theorem dX10_passAll_0 : decode cX10_passAll 0 = .ok (.iconst 0, 1) := by decide +kernel
theorem dX10_passAll_1 : decode cX10_passAll 1 = .ok (.istore_n 2, 1) := by decide +kernel
theorem dX10_passAll_2 : decode cX10_passAll 2 = .ok (.iload_n 2, 1) := by decide +kernel
theorem dX10_passAll_3 : decode cX10_passAll 3 = .ok (.iload_n 1, 1) := by decide +kernel
theorem dX10_passAll_4 : decode cX10_passAll 4 = .ok (.if_icmp .ge 14, 3) := by decide +kernel
theorem dX10_passAll_7 : decode cX10_passAll 7 = .ok (.aload_n 0, 1) := by decide +kernel
theorem dX10_passAll_8 : decode cX10_passAll 8 = .ok (.invokevirtual 70, 3) := by decide +kernel
theorem dX10_passAll_11 : decode cX10_passAll 11 = .ok (.pop, 1) := by decide +kernel
theorem dX10_passAll_12 : decode cX10_passAll 12 = .ok (.iinc 2 1, 3) := by decide +kernel
theorem dX10_passAll_15 : decode cX10_passAll 15 = .ok (.goto (-13), 3) := by decide +kernel
theorem dX10_passAll_18 : decode cX10_passAll 18 = .ok (.return_, 1) := by decide +kernel
theorem dX10_pass_0 : decode cX10_pass 0 = .ok (.aload_n 0, 1) := by decide +kernel
theorem dX10_pass_1 : decode cX10_pass 1 = .ok (.dup, 1) := by decide +kernel
theorem dX10_pass_2 : decode cX10_pass 2 = .ok (.getfield 47, 3) := by decide +kernel
theorem dX10_pass_5 : decode cX10_pass 5 = .ok (.iconst 1, 1) := by decide +kernel
theorem dX10_pass_6 : decode cX10_pass 6 = .ok (.iadd, 1) := by decide +kernel
theorem dX10_pass_7 : decode cX10_pass 7 = .ok (.putfield 47, 3) := by decide +kernel
theorem dX10_pass_10 : decode cX10_pass 10 = .ok (.iconst 0, 1) := by decide +kernel
theorem dX10_pass_11 : decode cX10_pass 11 = .ok (.istore_n 1, 1) := by decide +kernel
theorem dX10_pass_12 : decode cX10_pass 12 = .ok (.iload_n 1, 1) := by decide +kernel
theorem dX10_pass_13 : decode cX10_pass 13 = .ok (.aload_n 0, 1) := by decide +kernel
theorem dX10_pass_14 : decode cX10_pass 14 = .ok (.getfield 43, 3) := by decide +kernel
theorem dX10_pass_17 : decode cX10_pass 17 = .ok (.if_icmp .ge 40, 3) := by decide +kernel
theorem dX10_pass_20 : decode cX10_pass 20 = .ok (.aload_n 0, 1) := by decide +kernel
theorem dX10_pass_21 : decode cX10_pass 21 = .ok (.iload_n 1, 1) := by decide +kernel
theorem dX10_pass_22 : decode cX10_pass 22 = .ok (.invokevirtual 96, 3) := by decide +kernel
theorem dX10_pass_25 : decode cX10_pass 25 = .ok (.aload_n 0, 1) := by decide +kernel
theorem dX10_pass_26 : decode cX10_pass 26 = .ok (.getfield 9, 3) := by decide +kernel
theorem dX10_pass_29 : decode cX10_pass 29 = .ok (.aload_n 0, 1) := by decide +kernel
theorem dX10_pass_30 : decode cX10_pass 30 = .ok (.getfield 25, 3) := by decide +kernel
theorem dX10_pass_33 : decode cX10_pass 33 = .ok (.iload_n 1, 1) := by decide +kernel
theorem dX10_pass_34 : decode cX10_pass 34 = .ok (.iaload, 1) := by decide +kernel
theorem dX10_pass_35 : decode cX10_pass 35 = .ok (.aaload, 1) := by decide +kernel
theorem dX10_pass_36 : decode cX10_pass 36 = .ok (.aload_n 0, 1) := by decide +kernel
theorem dX10_pass_37 : decode cX10_pass 37 = .ok (.getfield 47, 3) := by decide +kernel
theorem dX10_pass_40 : decode cX10_pass 40 = .ok (.invokevirtual 100, 3) := by decide +kernel
theorem dX10_pass_43 : decode cX10_pass 43 = .ok (.ifCond .eq 8, 3) := by decide +kernel
theorem dX10_pass_46 : decode cX10_pass 46 = .ok (.aload_n 0, 1) := by decide +kernel
theorem dX10_pass_47 : decode cX10_pass 47 = .ok (.iload_n 1, 1) := by decide +kernel
theorem dX10_pass_48 : decode cX10_pass 48 = .ok (.invokevirtual 103, 3) := by decide +kernel
theorem dX10_pass_51 : decode cX10_pass 51 = .ok (.iinc 1 1, 3) := by decide +kernel
theorem dX10_pass_54 : decode cX10_pass 54 = .ok (.goto (-42), 3) := by decide +kernel
theorem dX10_pass_57 : decode cX10_pass 57 = .ok (.iconst 0, 1) := by decide +kernel
theorem dX10_pass_58 : decode cX10_pass 58 = .ok (.istore_n 1, 1) := by decide +kernel
theorem dX10_pass_59 : decode cX10_pass 59 = .ok (.iconst 0, 1) := by decide +kernel
theorem dX10_pass_60 : decode cX10_pass 60 = .ok (.istore_n 2, 1) := by decide +kernel
theorem dX10_pass_61 : decode cX10_pass 61 = .ok (.iload_n 2, 1) := by decide +kernel
theorem dX10_pass_62 : decode cX10_pass 62 = .ok (.iconst 5, 1) := by decide +kernel
theorem dX10_pass_63 : decode cX10_pass 63 = .ok (.if_icmp .ge 17, 3) := by decide +kernel
theorem dX10_pass_66 : decode cX10_pass 66 = .ok (.iload_n 1, 1) := by decide +kernel
theorem dX10_pass_67 : decode cX10_pass 67 = .ok (.aload_n 0, 1) := by decide +kernel
theorem dX10_pass_68 : decode cX10_pass 68 = .ok (.iload_n 2, 1) := by decide +kernel
theorem dX10_pass_69 : decode cX10_pass 69 = .ok (.invokevirtual 106, 3) := by decide +kernel
theorem dX10_pass_72 : decode cX10_pass 72 = .ok (.ior, 1) := by decide +kernel
theorem dX10_pass_73 : decode cX10_pass 73 = .ok (.istore_n 1, 1) := by decide +kernel
theorem dX10_pass_74 : decode cX10_pass 74 = .ok (.iinc 2 1, 3) := by decide +kernel
theorem dX10_pass_77 : decode cX10_pass 77 = .ok (.goto (-16), 3) := by decide +kernel
theorem dX10_pass_80 : decode cX10_pass 80 = .ok (.iload_n 1, 1) := by decide +kernel
theorem dX10_pass_81 : decode cX10_pass 81 = .ok (.ireturn, 1) := by decide +kernel
theorem dX10_study_0 : decode cX10_study 0 = .ok (.aload_n 0, 1) := by decide +kernel
theorem dX10_study_1 : decode cX10_study 1 = .ok (.getfield 31, 3) := by decide +kernel
theorem dX10_study_4 : decode cX10_study 4 = .ok (.iload_n 1, 1) := by decide +kernel
theorem dX10_study_5 : decode cX10_study 5 = .ok (.iaload, 1) := by decide +kernel
theorem dX10_study_6 : decode cX10_study 6 = .ok (.istore_n 2, 1) := by decide +kernel
theorem dX10_study_7 : decode cX10_study 7 = .ok (.aload_n 0, 1) := by decide +kernel
theorem dX10_study_8 : decode cX10_study 8 = .ok (.iload_n 1, 1) := by decide +kernel
theorem dX10_study_9 : decode cX10_study 9 = .ok (.aload_n 0, 1) := by decide +kernel
theorem dX10_study_10 : decode cX10_study 10 = .ok (.getfield 47, 3) := by decide +kernel
theorem dX10_study_13 : decode cX10_study 13 = .ok (.invokevirtual 109, 3) := by decide +kernel
theorem dX10_study_16 : decode cX10_study 16 = .ok (.istore_n 3, 1) := by decide +kernel
theorem dX10_study_17 : decode cX10_study 17 = .ok (.iconst 0, 1) := by decide +kernel
theorem dX10_study_18 : decode cX10_study 18 = .ok (.istore 4, 2) := by decide +kernel
theorem dX10_study_20 : decode cX10_study 20 = .ok (.iload 4, 2) := by decide +kernel
theorem dX10_study_22 : decode cX10_study 22 = .ok (.iload_n 3, 1) := by decide +kernel
theorem dX10_study_23 : decode cX10_study 23 = .ok (.if_icmp .ge 52, 3) := by decide +kernel
theorem dX10_study_26 : decode cX10_study 26 = .ok (.aload_n 0, 1) := by decide +kernel
theorem dX10_study_27 : decode cX10_study 27 = .ok (.getfield 34, 3) := by decide +kernel
theorem dX10_study_30 : decode cX10_study 30 = .ok (.iload_n 1, 1) := by decide +kernel
theorem dX10_study_31 : decode cX10_study 31 = .ok (.iconst 5, 1) := by decide +kernel
theorem dX10_study_32 : decode cX10_study 32 = .ok (.imul, 1) := by decide +kernel
theorem dX10_study_33 : decode cX10_study 33 = .ok (.iload_n 2, 1) := by decide +kernel
theorem dX10_study_34 : decode cX10_study 34 = .ok (.iadd, 1) := by decide +kernel
theorem dX10_study_35 : decode cX10_study 35 = .ok (.dup2, 1) := by decide +kernel
theorem dX10_study_36 : decode cX10_study 36 = .ok (.iaload, 1) := by decide +kernel
theorem dX10_study_37 : decode cX10_study 37 = .ok (.aload_n 0, 1) := by decide +kernel
theorem dX10_study_38 : decode cX10_study 38 = .ok (.getfield 9, 3) := by decide +kernel
theorem dX10_study_41 : decode cX10_study 41 = .ok (.aload_n 0, 1) := by decide +kernel
theorem dX10_study_42 : decode cX10_study 42 = .ok (.getfield 25, 3) := by decide +kernel
theorem dX10_study_45 : decode cX10_study 45 = .ok (.iload_n 1, 1) := by decide +kernel
theorem dX10_study_46 : decode cX10_study 46 = .ok (.iaload, 1) := by decide +kernel
theorem dX10_study_47 : decode cX10_study 47 = .ok (.aaload, 1) := by decide +kernel
theorem dX10_study_48 : decode cX10_study 48 = .ok (.aload_n 0, 1) := by decide +kernel
theorem dX10_study_49 : decode cX10_study 49 = .ok (.getfield 15, 3) := by decide +kernel
theorem dX10_study_52 : decode cX10_study 52 = .ok (.iload_n 2, 1) := by decide +kernel
theorem dX10_study_53 : decode cX10_study 53 = .ok (.iaload, 1) := by decide +kernel
theorem dX10_study_54 : decode cX10_study 54 = .ok (.aload_n 0, 1) := by decide +kernel
theorem dX10_study_55 : decode cX10_study 55 = .ok (.getfield 34, 3) := by decide +kernel
theorem dX10_study_58 : decode cX10_study 58 = .ok (.iload_n 1, 1) := by decide +kernel
theorem dX10_study_59 : decode cX10_study 59 = .ok (.iconst 5, 1) := by decide +kernel
theorem dX10_study_60 : decode cX10_study 60 = .ok (.imul, 1) := by decide +kernel
theorem dX10_study_61 : decode cX10_study 61 = .ok (.iload_n 2, 1) := by decide +kernel
theorem dX10_study_62 : decode cX10_study 62 = .ok (.iadd, 1) := by decide +kernel
theorem dX10_study_63 : decode cX10_study 63 = .ok (.iaload, 1) := by decide +kernel
theorem dX10_study_64 : decode cX10_study 64 = .ok (.invokevirtual 112, 3) := by decide +kernel
theorem dX10_study_67 : decode cX10_study 67 = .ok (.ior, 1) := by decide +kernel
theorem dX10_study_68 : decode cX10_study 68 = .ok (.iastore, 1) := by decide +kernel
theorem dX10_study_69 : decode cX10_study 69 = .ok (.iinc 4 1, 3) := by decide +kernel
theorem dX10_study_72 : decode cX10_study 72 = .ok (.goto (-52), 3) := by decide +kernel
theorem dX10_study_75 : decode cX10_study 75 = .ok (.return_, 1) := by decide +kernel
theorem dX10_forgetLatest_0 : decode cX10_forgetLatest 0 = .ok (.iconst 0, 1) := by decide +kernel
theorem dX10_forgetLatest_1 : decode cX10_forgetLatest 1 = .ok (.istore_n 2, 1) := by decide +kernel
theorem dX10_forgetLatest_2 : decode cX10_forgetLatest 2 = .ok (.iload_n 2, 1) := by decide +kernel
theorem dX10_forgetLatest_3 : decode cX10_forgetLatest 3 = .ok (.iconst 5, 1) := by decide +kernel
theorem dX10_forgetLatest_4 : decode cX10_forgetLatest 4 = .ok (.if_icmp .ge 71, 3) := by decide +kernel
theorem dX10_forgetLatest_7 : decode cX10_forgetLatest 7 = .ok (.aload_n 0, 1) := by decide +kernel
theorem dX10_forgetLatest_8 : decode cX10_forgetLatest 8 = .ok (.getfield 34, 3) := by decide +kernel
theorem dX10_forgetLatest_11 : decode cX10_forgetLatest 11 = .ok (.iload_n 1, 1) := by decide +kernel
theorem dX10_forgetLatest_12 : decode cX10_forgetLatest 12 = .ok (.iconst 5, 1) := by decide +kernel
theorem dX10_forgetLatest_13 : decode cX10_forgetLatest 13 = .ok (.imul, 1) := by decide +kernel
theorem dX10_forgetLatest_14 : decode cX10_forgetLatest 14 = .ok (.iload_n 2, 1) := by decide +kernel
theorem dX10_forgetLatest_15 : decode cX10_forgetLatest 15 = .ok (.iadd, 1) := by decide +kernel
theorem dX10_forgetLatest_16 : decode cX10_forgetLatest 16 = .ok (.iaload, 1) := by decide +kernel
theorem dX10_forgetLatest_17 : decode cX10_forgetLatest 17 = .ok (.istore_n 3, 1) := by decide +kernel
theorem dX10_forgetLatest_18 : decode cX10_forgetLatest 18 = .ok (.iload_n 3, 1) := by decide +kernel
theorem dX10_forgetLatest_19 : decode cX10_forgetLatest 19 = .ok (.iload_n 3, 1) := by decide +kernel
theorem dX10_forgetLatest_20 : decode cX10_forgetLatest 20 = .ok (.iconst 1, 1) := by decide +kernel
theorem dX10_forgetLatest_21 : decode cX10_forgetLatest 21 = .ok (.ishr, 1) := by decide +kernel
theorem dX10_forgetLatest_22 : decode cX10_forgetLatest 22 = .ok (.ior, 1) := by decide +kernel
theorem dX10_forgetLatest_23 : decode cX10_forgetLatest 23 = .ok (.istore 4, 2) := by decide +kernel
theorem dX10_forgetLatest_25 : decode cX10_forgetLatest 25 = .ok (.iload 4, 2) := by decide +kernel
theorem dX10_forgetLatest_27 : decode cX10_forgetLatest 27 = .ok (.iload 4, 2) := by decide +kernel
theorem dX10_forgetLatest_29 : decode cX10_forgetLatest 29 = .ok (.iconst 2, 1) := by decide +kernel
theorem dX10_forgetLatest_30 : decode cX10_forgetLatest 30 = .ok (.ishr, 1) := by decide +kernel
theorem dX10_forgetLatest_31 : decode cX10_forgetLatest 31 = .ok (.ior, 1) := by decide +kernel
theorem dX10_forgetLatest_32 : decode cX10_forgetLatest 32 = .ok (.istore 4, 2) := by decide +kernel
theorem dX10_forgetLatest_34 : decode cX10_forgetLatest 34 = .ok (.iload 4, 2) := by decide +kernel
theorem dX10_forgetLatest_36 : decode cX10_forgetLatest 36 = .ok (.iload 4, 2) := by decide +kernel
theorem dX10_forgetLatest_38 : decode cX10_forgetLatest 38 = .ok (.iconst 4, 1) := by decide +kernel
theorem dX10_forgetLatest_39 : decode cX10_forgetLatest 39 = .ok (.ishr, 1) := by decide +kernel
theorem dX10_forgetLatest_40 : decode cX10_forgetLatest 40 = .ok (.ior, 1) := by decide +kernel
theorem dX10_forgetLatest_41 : decode cX10_forgetLatest 41 = .ok (.istore 4, 2) := by decide +kernel
theorem dX10_forgetLatest_43 : decode cX10_forgetLatest 43 = .ok (.iload 4, 2) := by decide +kernel
theorem dX10_forgetLatest_45 : decode cX10_forgetLatest 45 = .ok (.iload 4, 2) := by decide +kernel
theorem dX10_forgetLatest_47 : decode cX10_forgetLatest 47 = .ok (.bipush 8, 2) := by decide +kernel
theorem dX10_forgetLatest_49 : decode cX10_forgetLatest 49 = .ok (.ishr, 1) := by decide +kernel
theorem dX10_forgetLatest_50 : decode cX10_forgetLatest 50 = .ok (.ior, 1) := by decide +kernel
theorem dX10_forgetLatest_51 : decode cX10_forgetLatest 51 = .ok (.istore 4, 2) := by decide +kernel
theorem dX10_forgetLatest_53 : decode cX10_forgetLatest 53 = .ok (.aload_n 0, 1) := by decide +kernel
theorem dX10_forgetLatest_54 : decode cX10_forgetLatest 54 = .ok (.getfield 34, 3) := by decide +kernel
theorem dX10_forgetLatest_57 : decode cX10_forgetLatest 57 = .ok (.iload_n 1, 1) := by decide +kernel
theorem dX10_forgetLatest_58 : decode cX10_forgetLatest 58 = .ok (.iconst 5, 1) := by decide +kernel
theorem dX10_forgetLatest_59 : decode cX10_forgetLatest 59 = .ok (.imul, 1) := by decide +kernel
theorem dX10_forgetLatest_60 : decode cX10_forgetLatest 60 = .ok (.iload_n 2, 1) := by decide +kernel
theorem dX10_forgetLatest_61 : decode cX10_forgetLatest 61 = .ok (.iadd, 1) := by decide +kernel
theorem dX10_forgetLatest_62 : decode cX10_forgetLatest 62 = .ok (.iload_n 3, 1) := by decide +kernel
theorem dX10_forgetLatest_63 : decode cX10_forgetLatest 63 = .ok (.iload 4, 2) := by decide +kernel
theorem dX10_forgetLatest_65 : decode cX10_forgetLatest 65 = .ok (.iconst 1, 1) := by decide +kernel
theorem dX10_forgetLatest_66 : decode cX10_forgetLatest 66 = .ok (.ishr, 1) := by decide +kernel
theorem dX10_forgetLatest_67 : decode cX10_forgetLatest 67 = .ok (.iand, 1) := by decide +kernel
theorem dX10_forgetLatest_68 : decode cX10_forgetLatest 68 = .ok (.iastore, 1) := by decide +kernel
theorem dX10_forgetLatest_69 : decode cX10_forgetLatest 69 = .ok (.iinc 2 1, 3) := by decide +kernel
theorem dX10_forgetLatest_72 : decode cX10_forgetLatest 72 = .ok (.goto (-70), 3) := by decide +kernel
theorem dX10_forgetLatest_75 : decode cX10_forgetLatest 75 = .ok (.return_, 1) := by decide +kernel
theorem dX10_flood_0 : decode cX10_flood 0 = .ok (.iconst 0, 1) := by decide +kernel
theorem dX10_flood_1 : decode cX10_flood 1 = .ok (.istore_n 1, 1) := by decide +kernel
theorem dX10_flood_2 : decode cX10_flood 2 = .ok (.iload_n 1, 1) := by decide +kernel
theorem dX10_flood_3 : decode cX10_flood 3 = .ok (.aload_n 0, 1) := by decide +kernel
theorem dX10_flood_4 : decode cX10_flood 4 = .ok (.getfield 43, 3) := by decide +kernel
theorem dX10_flood_7 : decode cX10_flood 7 = .ok (.iconst 5, 1) := by decide +kernel
theorem dX10_flood_8 : decode cX10_flood 8 = .ok (.imul, 1) := by decide +kernel
theorem dX10_flood_9 : decode cX10_flood 9 = .ok (.if_icmp .ge 26, 3) := by decide +kernel
theorem dX10_flood_12 : decode cX10_flood 12 = .ok (.aload_n 0, 1) := by decide +kernel
theorem dX10_flood_13 : decode cX10_flood 13 = .ok (.getfield 34, 3) := by decide +kernel
theorem dX10_flood_16 : decode cX10_flood 16 = .ok (.iload_n 1, 1) := by decide +kernel
theorem dX10_flood_17 : decode cX10_flood 17 = .ok (.dup2, 1) := by decide +kernel
theorem dX10_flood_18 : decode cX10_flood 18 = .ok (.iaload, 1) := by decide +kernel
theorem dX10_flood_19 : decode cX10_flood 19 = .ok (.aload_n 0, 1) := by decide +kernel
theorem dX10_flood_20 : decode cX10_flood 20 = .ok (.getfield 34, 3) := by decide +kernel
theorem dX10_flood_23 : decode cX10_flood 23 = .ok (.iload_n 1, 1) := by decide +kernel
theorem dX10_flood_24 : decode cX10_flood 24 = .ok (.iaload, 1) := by decide +kernel
theorem dX10_flood_25 : decode cX10_flood 25 = .ok (.iconst 1, 1) := by decide +kernel
theorem dX10_flood_26 : decode cX10_flood 26 = .ok (.isub, 1) := by decide +kernel
theorem dX10_flood_27 : decode cX10_flood 27 = .ok (.iand, 1) := by decide +kernel
theorem dX10_flood_28 : decode cX10_flood 28 = .ok (.iastore, 1) := by decide +kernel
theorem dX10_flood_29 : decode cX10_flood 29 = .ok (.iinc 1 1, 3) := by decide +kernel
theorem dX10_flood_32 : decode cX10_flood 32 = .ok (.goto (-30), 3) := by decide +kernel
theorem dX10_flood_35 : decode cX10_flood 35 = .ok (.return_, 1) := by decide +kernel
theorem dX10_settle_0 : decode cX10_settle 0 = .ok (.iconst 0, 1) := by decide +kernel
theorem dX10_settle_1 : decode cX10_settle 1 = .ok (.istore_n 2, 1) := by decide +kernel
theorem dX10_settle_2 : decode cX10_settle 2 = .ok (.iconst 0, 1) := by decide +kernel
theorem dX10_settle_3 : decode cX10_settle 3 = .ok (.istore_n 3, 1) := by decide +kernel
theorem dX10_settle_4 : decode cX10_settle 4 = .ok (.bipush 9, 2) := by decide +kernel
theorem dX10_settle_6 : decode cX10_settle 6 = .ok (.istore 4, 2) := by decide +kernel
theorem dX10_settle_8 : decode cX10_settle 8 = .ok (.iconst 0, 1) := by decide +kernel
theorem dX10_settle_9 : decode cX10_settle 9 = .ok (.istore 5, 2) := by decide +kernel
theorem dX10_settle_11 : decode cX10_settle 11 = .ok (.iload 5, 2) := by decide +kernel
theorem dX10_settle_13 : decode cX10_settle 13 = .ok (.aload_n 0, 1) := by decide +kernel
theorem dX10_settle_14 : decode cX10_settle 14 = .ok (.getfield 43, 3) := by decide +kernel
theorem dX10_settle_17 : decode cX10_settle 17 = .ok (.if_icmp .ge 96, 3) := by decide +kernel
theorem dX10_settle_20 : decode cX10_settle 20 = .ok (.aload_n 0, 1) := by decide +kernel
theorem dX10_settle_21 : decode cX10_settle 21 = .ok (.getfield 34, 3) := by decide +kernel
theorem dX10_settle_24 : decode cX10_settle 24 = .ok (.iload 5, 2) := by decide +kernel
theorem dX10_settle_26 : decode cX10_settle 26 = .ok (.iconst 5, 1) := by decide +kernel
theorem dX10_settle_27 : decode cX10_settle 27 = .ok (.imul, 1) := by decide +kernel
theorem dX10_settle_28 : decode cX10_settle 28 = .ok (.iload_n 1, 1) := by decide +kernel
theorem dX10_settle_29 : decode cX10_settle 29 = .ok (.iadd, 1) := by decide +kernel
theorem dX10_settle_30 : decode cX10_settle 30 = .ok (.iaload, 1) := by decide +kernel
theorem dX10_settle_31 : decode cX10_settle 31 = .ok (.istore 6, 2) := by decide +kernel
theorem dX10_settle_33 : decode cX10_settle 33 = .ok (.aload_n 0, 1) := by decide +kernel
theorem dX10_settle_34 : decode cX10_settle 34 = .ok (.getfield 9, 3) := by decide +kernel
theorem dX10_settle_37 : decode cX10_settle 37 = .ok (.aload_n 0, 1) := by decide +kernel
theorem dX10_settle_38 : decode cX10_settle 38 = .ok (.getfield 25, 3) := by decide +kernel
theorem dX10_settle_41 : decode cX10_settle 41 = .ok (.iload 5, 2) := by decide +kernel
theorem dX10_settle_43 : decode cX10_settle 43 = .ok (.iaload, 1) := by decide +kernel
theorem dX10_settle_44 : decode cX10_settle 44 = .ok (.aaload, 1) := by decide +kernel
theorem dX10_settle_45 : decode cX10_settle 45 = .ok (.aload_n 0, 1) := by decide +kernel
theorem dX10_settle_46 : decode cX10_settle 46 = .ok (.getfield 28, 3) := by decide +kernel
theorem dX10_settle_49 : decode cX10_settle 49 = .ok (.iload 5, 2) := by decide +kernel
theorem dX10_settle_51 : decode cX10_settle 51 = .ok (.iaload, 1) := by decide +kernel
theorem dX10_settle_52 : decode cX10_settle 52 = .ok (.iload 6, 2) := by decide +kernel
theorem dX10_settle_54 : decode cX10_settle 54 = .ok (.aload_n 0, 1) := by decide +kernel
theorem dX10_settle_55 : decode cX10_settle 55 = .ok (.getfield 15, 3) := by decide +kernel
theorem dX10_settle_58 : decode cX10_settle 58 = .ok (.iload_n 1, 1) := by decide +kernel
theorem dX10_settle_59 : decode cX10_settle 59 = .ok (.iaload, 1) := by decide +kernel
theorem dX10_settle_60 : decode cX10_settle 60 = .ok (.iand, 1) := by decide +kernel
theorem dX10_settle_61 : decode cX10_settle 61 = .ok (.iload 6, 2) := by decide +kernel
theorem dX10_settle_63 : decode cX10_settle 63 = .ok (.aload_n 0, 1) := by decide +kernel
theorem dX10_settle_64 : decode cX10_settle 64 = .ok (.getfield 15, 3) := by decide +kernel
theorem dX10_settle_67 : decode cX10_settle 67 = .ok (.iload_n 1, 1) := by decide +kernel
theorem dX10_settle_68 : decode cX10_settle 68 = .ok (.iaload, 1) := by decide +kernel
theorem dX10_settle_69 : decode cX10_settle 69 = .ok (.iconst (-1), 1) := by decide +kernel
theorem dX10_settle_70 : decode cX10_settle 70 = .ok (.ixor, 1) := by decide +kernel
theorem dX10_settle_71 : decode cX10_settle 71 = .ok (.iand, 1) := by decide +kernel
theorem dX10_settle_72 : decode cX10_settle 72 = .ok (.invokevirtual 78, 3) := by decide +kernel
theorem dX10_settle_75 : decode cX10_settle 75 = .ok (.istore 7, 2) := by decide +kernel
theorem dX10_settle_77 : decode cX10_settle 77 = .ok (.iload 5, 2) := by decide +kernel
theorem dX10_settle_79 : decode cX10_settle 79 = .ok (.aload_n 0, 1) := by decide +kernel
theorem dX10_settle_80 : decode cX10_settle 80 = .ok (.getfield 22, 3) := by decide +kernel
theorem dX10_settle_83 : decode cX10_settle 83 = .ok (.iload_n 1, 1) := by decide +kernel
theorem dX10_settle_84 : decode cX10_settle 84 = .ok (.iaload, 1) := by decide +kernel
theorem dX10_settle_85 : decode cX10_settle 85 = .ok (.if_icmp .ne 9, 3) := by decide +kernel
theorem dX10_settle_88 : decode cX10_settle 88 = .ok (.iload 7, 2) := by decide +kernel
theorem dX10_settle_90 : decode cX10_settle 90 = .ok (.istore_n 2, 1) := by decide +kernel
theorem dX10_settle_91 : decode cX10_settle 91 = .ok (.goto 16, 3) := by decide +kernel
theorem dX10_settle_94 : decode cX10_settle 94 = .ok (.iload 7, 2) := by decide +kernel
theorem dX10_settle_96 : decode cX10_settle 96 = .ok (.iload_n 3, 1) := by decide +kernel
theorem dX10_settle_97 : decode cX10_settle 97 = .ok (.if_icmp .le 10, 3) := by decide +kernel
theorem dX10_settle_100 : decode cX10_settle 100 = .ok (.iload 7, 2) := by decide +kernel
theorem dX10_settle_102 : decode cX10_settle 102 = .ok (.istore_n 3, 1) := by decide +kernel
theorem dX10_settle_103 : decode cX10_settle 103 = .ok (.iload 5, 2) := by decide +kernel
theorem dX10_settle_105 : decode cX10_settle 105 = .ok (.istore 4, 2) := by decide +kernel
theorem dX10_settle_107 : decode cX10_settle 107 = .ok (.iinc 5 1, 3) := by decide +kernel
theorem dX10_settle_110 : decode cX10_settle 110 = .ok (.goto (-99), 3) := by decide +kernel
theorem dX10_settle_113 : decode cX10_settle 113 = .ok (.iload_n 3, 1) := by decide +kernel
theorem dX10_settle_114 : decode cX10_settle 114 = .ok (.iload_n 2, 1) := by decide +kernel
theorem dX10_settle_115 : decode cX10_settle 115 = .ok (.if_icmp .gt 5, 3) := by decide +kernel
theorem dX10_settle_118 : decode cX10_settle 118 = .ok (.iconst 0, 1) := by decide +kernel
theorem dX10_settle_119 : decode cX10_settle 119 = .ok (.ireturn, 1) := by decide +kernel
theorem dX10_settle_120 : decode cX10_settle 120 = .ok (.aload_n 0, 1) := by decide +kernel
theorem dX10_settle_121 : decode cX10_settle 121 = .ok (.getfield 22, 3) := by decide +kernel
theorem dX10_settle_124 : decode cX10_settle 124 = .ok (.iload_n 1, 1) := by decide +kernel
theorem dX10_settle_125 : decode cX10_settle 125 = .ok (.iload 4, 2) := by decide +kernel
theorem dX10_settle_127 : decode cX10_settle 127 = .ok (.iastore, 1) := by decide +kernel
theorem dX10_settle_128 : decode cX10_settle 128 = .ok (.iconst 1, 1) := by decide +kernel
theorem dX10_settle_129 : decode cX10_settle 129 = .ok (.ireturn, 1) := by decide +kernel
theorem dX11_init_0 : decode cX11_init 0 = .ok (.aload_n 0, 1) := by decide +kernel
theorem dX11_init_1 : decode cX11_init 1 = .ok (.invokespecial 1, 3) := by decide +kernel
theorem dX11_init_4 : decode cX11_init 4 = .ok (.bipush 8, 2) := by decide +kernel
theorem dX11_init_6 : decode cX11_init 6 = .ok (.anewarray 7, 3) := by decide +kernel
theorem dX11_init_9 : decode cX11_init 9 = .ok (.dup, 1) := by decide +kernel
theorem dX11_init_10 : decode cX11_init 10 = .ok (.iconst 0, 1) := by decide +kernel
theorem dX11_init_11 : decode cX11_init 11 = .ok (.new 7, 3) := by decide +kernel
theorem dX11_init_14 : decode cX11_init 14 = .ok (.dup, 1) := by decide +kernel
theorem dX11_init_15 : decode cX11_init 15 = .ok (.invokespecial 9, 3) := by decide +kernel
theorem dX11_init_18 : decode cX11_init 18 = .ok (.aastore, 1) := by decide +kernel
theorem dX11_init_19 : decode cX11_init 19 = .ok (.dup, 1) := by decide +kernel
theorem dX11_init_20 : decode cX11_init 20 = .ok (.iconst 1, 1) := by decide +kernel
theorem dX11_init_21 : decode cX11_init 21 = .ok (.new 10, 3) := by decide +kernel
theorem dX11_init_24 : decode cX11_init 24 = .ok (.dup, 1) := by decide +kernel
theorem dX11_init_25 : decode cX11_init 25 = .ok (.invokespecial 12, 3) := by decide +kernel
theorem dX11_init_28 : decode cX11_init 28 = .ok (.aastore, 1) := by decide +kernel
theorem dX11_init_29 : decode cX11_init 29 = .ok (.dup, 1) := by decide +kernel
theorem dX11_init_30 : decode cX11_init 30 = .ok (.iconst 2, 1) := by decide +kernel
theorem dX11_init_31 : decode cX11_init 31 = .ok (.new 13, 3) := by decide +kernel
theorem dX11_init_34 : decode cX11_init 34 = .ok (.dup, 1) := by decide +kernel
theorem dX11_init_35 : decode cX11_init 35 = .ok (.invokespecial 15, 3) := by decide +kernel
theorem dX11_init_38 : decode cX11_init 38 = .ok (.aastore, 1) := by decide +kernel
theorem dX11_init_39 : decode cX11_init 39 = .ok (.dup, 1) := by decide +kernel
theorem dX11_init_40 : decode cX11_init 40 = .ok (.iconst 3, 1) := by decide +kernel
theorem dX11_init_41 : decode cX11_init 41 = .ok (.new 16, 3) := by decide +kernel
theorem dX11_init_44 : decode cX11_init 44 = .ok (.dup, 1) := by decide +kernel
theorem dX11_init_45 : decode cX11_init 45 = .ok (.invokespecial 18, 3) := by decide +kernel
theorem dX11_init_48 : decode cX11_init 48 = .ok (.aastore, 1) := by decide +kernel
theorem dX11_init_49 : decode cX11_init 49 = .ok (.dup, 1) := by decide +kernel
theorem dX11_init_50 : decode cX11_init 50 = .ok (.iconst 4, 1) := by decide +kernel
theorem dX11_init_51 : decode cX11_init 51 = .ok (.new 19, 3) := by decide +kernel
theorem dX11_init_54 : decode cX11_init 54 = .ok (.dup, 1) := by decide +kernel
theorem dX11_init_55 : decode cX11_init 55 = .ok (.invokespecial 21, 3) := by decide +kernel
theorem dX11_init_58 : decode cX11_init 58 = .ok (.aastore, 1) := by decide +kernel
theorem dX11_init_59 : decode cX11_init 59 = .ok (.dup, 1) := by decide +kernel
theorem dX11_init_60 : decode cX11_init 60 = .ok (.iconst 5, 1) := by decide +kernel
theorem dX11_init_61 : decode cX11_init 61 = .ok (.new 22, 3) := by decide +kernel
theorem dX11_init_64 : decode cX11_init 64 = .ok (.dup, 1) := by decide +kernel
theorem dX11_init_65 : decode cX11_init 65 = .ok (.invokespecial 24, 3) := by decide +kernel
theorem dX11_init_68 : decode cX11_init 68 = .ok (.aastore, 1) := by decide +kernel
theorem dX11_init_69 : decode cX11_init 69 = .ok (.dup, 1) := by decide +kernel
theorem dX11_init_70 : decode cX11_init 70 = .ok (.bipush 6, 2) := by decide +kernel
theorem dX11_init_72 : decode cX11_init 72 = .ok (.new 25, 3) := by decide +kernel
theorem dX11_init_75 : decode cX11_init 75 = .ok (.dup, 1) := by decide +kernel
theorem dX11_init_76 : decode cX11_init 76 = .ok (.invokespecial 27, 3) := by decide +kernel
theorem dX11_init_79 : decode cX11_init 79 = .ok (.aastore, 1) := by decide +kernel
theorem dX11_init_80 : decode cX11_init 80 = .ok (.dup, 1) := by decide +kernel
theorem dX11_init_81 : decode cX11_init 81 = .ok (.bipush 7, 2) := by decide +kernel
theorem dX11_init_83 : decode cX11_init 83 = .ok (.new 28, 3) := by decide +kernel
theorem dX11_init_86 : decode cX11_init 86 = .ok (.dup, 1) := by decide +kernel
theorem dX11_init_87 : decode cX11_init 87 = .ok (.invokespecial 30, 3) := by decide +kernel
theorem dX11_init_90 : decode cX11_init 90 = .ok (.aastore, 1) := by decide +kernel
theorem dX11_init_91 : decode cX11_init 91 = .ok (.astore_n 1, 1) := by decide +kernel
theorem dX11_init_92 : decode cX11_init 92 = .ok (.aload_n 0, 1) := by decide +kernel
theorem dX11_init_93 : decode cX11_init 93 = .ok (.new 31, 3) := by decide +kernel
theorem dX11_init_96 : decode cX11_init 96 = .ok (.dup, 1) := by decide +kernel
theorem dX11_init_97 : decode cX11_init 97 = .ok (.aload_n 1, 1) := by decide +kernel
theorem dX11_init_98 : decode cX11_init 98 = .ok (.invokespecial 33, 3) := by decide +kernel
theorem dX11_init_101 : decode cX11_init 101 = .ok (.putfield 36, 3) := by decide +kernel
theorem dX11_init_104 : decode cX11_init 104 = .ok (.aload_n 0, 1) := by decide +kernel
theorem dX11_init_105 : decode cX11_init 105 = .ok (.new 31, 3) := by decide +kernel
theorem dX11_init_108 : decode cX11_init 108 = .ok (.dup, 1) := by decide +kernel
theorem dX11_init_109 : decode cX11_init 109 = .ok (.aload_n 1, 1) := by decide +kernel
theorem dX11_init_110 : decode cX11_init 110 = .ok (.invokespecial 33, 3) := by decide +kernel
theorem dX11_init_113 : decode cX11_init 113 = .ok (.putfield 42, 3) := by decide +kernel
theorem dX11_init_116 : decode cX11_init 116 = .ok (.aload_n 0, 1) := by decide +kernel
theorem dX11_init_117 : decode cX11_init 117 = .ok (.bipush 8, 2) := by decide +kernel
theorem dX11_init_119 : decode cX11_init 119 = .ok (.anewarray 31, 3) := by decide +kernel
theorem dX11_init_122 : decode cX11_init 122 = .ok (.putfield 45, 3) := by decide +kernel
theorem dX11_init_125 : decode cX11_init 125 = .ok (.iconst 0, 1) := by decide +kernel
theorem dX11_init_126 : decode cX11_init 126 = .ok (.istore_n 2, 1) := by decide +kernel
theorem dX11_init_127 : decode cX11_init 127 = .ok (.iload_n 2, 1) := by decide +kernel
theorem dX11_init_128 : decode cX11_init 128 = .ok (.aload_n 0, 1) := by decide +kernel
theorem dX11_init_129 : decode cX11_init 129 = .ok (.getfield 45, 3) := by decide +kernel
theorem dX11_init_132 : decode cX11_init 132 = .ok (.arraylength, 1) := by decide +kernel
theorem dX11_init_133 : decode cX11_init 133 = .ok (.if_icmp .ge 23, 3) := by decide +kernel
theorem dX11_init_136 : decode cX11_init 136 = .ok (.aload_n 0, 1) := by decide +kernel
theorem dX11_init_137 : decode cX11_init 137 = .ok (.getfield 45, 3) := by decide +kernel
theorem dX11_init_140 : decode cX11_init 140 = .ok (.iload_n 2, 1) := by decide +kernel
theorem dX11_init_141 : decode cX11_init 141 = .ok (.new 31, 3) := by decide +kernel
theorem dX11_init_144 : decode cX11_init 144 = .ok (.dup, 1) := by decide +kernel
theorem dX11_init_145 : decode cX11_init 145 = .ok (.aload_n 1, 1) := by decide +kernel
theorem dX11_init_146 : decode cX11_init 146 = .ok (.invokespecial 33, 3) := by decide +kernel
theorem dX11_init_149 : decode cX11_init 149 = .ok (.aastore, 1) := by decide +kernel
theorem dX11_init_150 : decode cX11_init 150 = .ok (.iinc 2 1, 3) := by decide +kernel
theorem dX11_init_153 : decode cX11_init 153 = .ok (.goto (-26), 3) := by decide +kernel
theorem dX11_init_156 : decode cX11_init 156 = .ok (.aload_n 0, 1) := by decide +kernel
theorem dX11_init_157 : decode cX11_init 157 = .ok (.aload_n 0, 1) := by decide +kernel
theorem dX11_init_158 : decode cX11_init 158 = .ok (.getfield 45, 3) := by decide +kernel
theorem dX11_init_161 : decode cX11_init 161 = .ok (.iconst 0, 1) := by decide +kernel
theorem dX11_init_162 : decode cX11_init 162 = .ok (.aaload, 1) := by decide +kernel
theorem dX11_init_163 : decode cX11_init 163 = .ok (.putfield 49, 3) := by decide +kernel
theorem dX11_init_166 : decode cX11_init 166 = .ok (.aload_n 0, 1) := by decide +kernel
theorem dX11_init_167 : decode cX11_init 167 = .ok (.bipush 8, 2) := by decide +kernel
theorem dX11_init_169 : decode cX11_init 169 = .ok (.anewarray 52, 3) := by decide +kernel
theorem dX11_init_172 : decode cX11_init 172 = .ok (.putfield 54, 3) := by decide +kernel
theorem dX11_init_175 : decode cX11_init 175 = .ok (.iconst 0, 1) := by decide +kernel
theorem dX11_init_176 : decode cX11_init 176 = .ok (.istore_n 2, 1) := by decide +kernel
theorem dX11_init_177 : decode cX11_init 177 = .ok (.iload_n 2, 1) := by decide +kernel
theorem dX11_init_178 : decode cX11_init 178 = .ok (.bipush 8, 2) := by decide +kernel
theorem dX11_init_180 : decode cX11_init 180 = .ok (.if_icmp .ge 22, 3) := by decide +kernel
theorem dX11_init_183 : decode cX11_init 183 = .ok (.aload_n 0, 1) := by decide +kernel
theorem dX11_init_184 : decode cX11_init 184 = .ok (.getfield 54, 3) := by decide +kernel
theorem dX11_init_187 : decode cX11_init 187 = .ok (.iload_n 2, 1) := by decide +kernel
theorem dX11_init_188 : decode cX11_init 188 = .ok (.new 52, 3) := by decide +kernel
theorem dX11_init_191 : decode cX11_init 191 = .ok (.dup, 1) := by decide +kernel
theorem dX11_init_192 : decode cX11_init 192 = .ok (.invokespecial 58, 3) := by decide +kernel
theorem dX11_init_195 : decode cX11_init 195 = .ok (.aastore, 1) := by decide +kernel
theorem dX11_init_196 : decode cX11_init 196 = .ok (.iinc 2 1, 3) := by decide +kernel
theorem dX11_init_199 : decode cX11_init 199 = .ok (.goto (-22), 3) := by decide +kernel
theorem dX11_init_202 : decode cX11_init 202 = .ok (.aload_n 0, 1) := by decide +kernel
theorem dX11_init_203 : decode cX11_init 203 = .ok (.sipush 768, 3) := by decide +kernel
theorem dX11_init_206 : decode cX11_init 206 = .ok (.newarray .int, 2) := by decide +kernel
theorem dX11_init_208 : decode cX11_init 208 = .ok (.putfield 59, 3) := by decide +kernel
theorem dX11_init_211 : decode cX11_init 211 = .ok (.aload_n 0, 1) := by decide +kernel
theorem dX11_init_212 : decode cX11_init 212 = .ok (.bipush 35, 2) := by decide +kernel
theorem dX11_init_214 : decode cX11_init 214 = .ok (.newarray .int, 2) := by decide +kernel
theorem dX11_init_216 : decode cX11_init 216 = .ok (.putfield 63, 3) := by decide +kernel
theorem dX11_init_219 : decode cX11_init 219 = .ok (.aload_n 0, 1) := by decide +kernel
theorem dX11_init_220 : decode cX11_init 220 = .ok (.bipush 8, 2) := by decide +kernel
theorem dX11_init_222 : decode cX11_init 222 = .ok (.newarray .int, 2) := by decide +kernel
theorem dX11_init_224 : decode cX11_init 224 = .ok (.putfield 66, 3) := by decide +kernel
theorem dX11_init_227 : decode cX11_init 227 = .ok (.return_, 1) := by decide +kernel
theorem dX11_town_0 : decode cX11_town 0 = .ok (.aload_n 0, 1) := by decide +kernel
theorem dX11_town_1 : decode cX11_town 1 = .ok (.iload_n 1, 1) := by decide +kernel
theorem dX11_town_2 : decode cX11_town 2 = .ok (.invokevirtual 69, 3) := by decide +kernel
theorem dX11_town_5 : decode cX11_town 5 = .ok (.istore_n 2, 1) := by decide +kernel
theorem dX11_town_6 : decode cX11_town 6 = .ok (.iload_n 2, 1) := by decide +kernel
theorem dX11_town_7 : decode cX11_town 7 = .ok (.ifCond .eq 5, 3) := by decide +kernel
theorem dX11_town_10 : decode cX11_town 10 = .ok (.iload_n 2, 1) := by decide +kernel
theorem dX11_town_11 : decode cX11_town 11 = .ok (.ireturn, 1) := by decide +kernel
theorem dX11_town_12 : decode cX11_town 12 = .ok (.aload_n 0, 1) := by decide +kernel
theorem dX11_town_13 : decode cX11_town 13 = .ok (.getfield 54, 3) := by decide +kernel
theorem dX11_town_16 : decode cX11_town 16 = .ok (.iload_n 1, 1) := by decide +kernel
theorem dX11_town_17 : decode cX11_town 17 = .ok (.aaload, 1) := by decide +kernel
theorem dX11_town_18 : decode cX11_town 18 = .ok (.astore_n 3, 1) := by decide +kernel
theorem dX11_town_19 : decode cX11_town 19 = .ok (.aload_n 3, 1) := by decide +kernel
theorem dX11_town_20 : decode cX11_town 20 = .ok (.getfield 73, 3) := by decide +kernel
theorem dX11_town_23 : decode cX11_town 23 = .ok (.ifCond .eq 6, 3) := by decide +kernel
theorem dX11_town_26 : decode cX11_town 26 = .ok (.bipush (-12), 2) := by decide +kernel
theorem dX11_town_28 : decode cX11_town 28 = .ok (.ireturn, 1) := by decide +kernel
theorem dX11_town_29 : decode cX11_town 29 = .ok (.aload_n 3, 1) := by decide +kernel
theorem dX11_town_30 : decode cX11_town 30 = .ok (.invokestatic 77, 3) := by decide +kernel
theorem dX11_town_33 : decode cX11_town 33 = .ok (.istore 4, 2) := by decide +kernel
theorem dX11_town_35 : decode cX11_town 35 = .ok (.iload 4, 2) := by decide +kernel
theorem dX11_town_37 : decode cX11_town 37 = .ok (.ifCond .lt 10, 3) := by decide +kernel
theorem dX11_town_40 : decode cX11_town 40 = .ok (.sipush (-1000), 3) := by decide +kernel
theorem dX11_town_43 : decode cX11_town 43 = .ok (.iload 4, 2) := by decide +kernel
theorem dX11_town_45 : decode cX11_town 45 = .ok (.isub, 1) := by decide +kernel
theorem dX11_town_46 : decode cX11_town 46 = .ok (.ireturn, 1) := by decide +kernel
theorem dX11_town_47 : decode cX11_town 47 = .ok (.aload_n 0, 1) := by decide +kernel
theorem dX11_town_48 : decode cX11_town 48 = .ok (.getfield 49, 3) := by decide +kernel
theorem dX11_town_51 : decode cX11_town 51 = .ok (.aload_n 0, 1) := by decide +kernel
theorem dX11_town_52 : decode cX11_town 52 = .ok (.getfield 36, 3) := by decide +kernel
theorem dX11_town_55 : decode cX11_town 55 = .ok (.invokevirtual 83, 3) := by decide +kernel
theorem dX11_town_58 : decode cX11_town 58 = .ok (.iconst 0, 1) := by decide +kernel
theorem dX11_town_59 : decode cX11_town 59 = .ok (.istore 5, 2) := by decide +kernel
theorem dX11_town_61 : decode cX11_town 61 = .ok (.iconst 0, 1) := by decide +kernel
theorem dX11_town_62 : decode cX11_town 62 = .ok (.istore 6, 2) := by decide +kernel
theorem dX11_town_64 : decode cX11_town 64 = .ok (.iload 5, 2) := by decide +kernel
theorem dX11_town_66 : decode cX11_town 66 = .ok (.aload_n 3, 1) := by decide +kernel
theorem dX11_town_67 : decode cX11_town 67 = .ok (.getfield 87, 3) := by decide +kernel
theorem dX11_town_70 : decode cX11_town 70 = .ok (.if_icmp .ge 44, 3) := by decide +kernel
theorem dX11_town_73 : decode cX11_town 73 = .ok (.iload 6, 2) := by decide +kernel
theorem dX11_town_75 : decode cX11_town 75 = .ok (.bipush 100, 2) := by decide +kernel
theorem dX11_town_77 : decode cX11_town 77 = .ok (.if_icmp .ge 37, 3) := by decide +kernel
theorem dX11_town_80 : decode cX11_town 80 = .ok (.aload_n 3, 1) := by decide +kernel
theorem dX11_town_81 : decode cX11_town 81 = .ok (.iload 5, 2) := by decide +kernel
theorem dX11_town_83 : decode cX11_town 83 = .ok (.aload_n 0, 1) := by decide +kernel
theorem dX11_town_84 : decode cX11_town 84 = .ok (.getfield 49, 3) := by decide +kernel
theorem dX11_town_87 : decode cX11_town 87 = .ok (.invokestatic 90, 3) := by decide +kernel
theorem dX11_town_90 : decode cX11_town 90 = .ok (.ifCond .ne 10, 3) := by decide +kernel
theorem dX11_town_93 : decode cX11_town 93 = .ok (.sipush (-2000), 3) := by decide +kernel
theorem dX11_town_96 : decode cX11_town 96 = .ok (.iload 5, 2) := by decide +kernel
theorem dX11_town_98 : decode cX11_town 98 = .ok (.isub, 1) := by decide +kernel
theorem dX11_town_99 : decode cX11_town 99 = .ok (.ireturn, 1) := by decide +kernel
theorem dX11_town_100 : decode cX11_town 100 = .ok (.aload_n 3, 1) := by decide +kernel
theorem dX11_town_101 : decode cX11_town 101 = .ok (.iload 5, 2) := by decide +kernel
theorem dX11_town_103 : decode cX11_town 103 = .ok (.invokestatic 94, 3) := by decide +kernel
theorem dX11_town_106 : decode cX11_town 106 = .ok (.istore 5, 2) := by decide +kernel
theorem dX11_town_108 : decode cX11_town 108 = .ok (.iinc 6 1, 3) := by decide +kernel
theorem dX11_town_111 : decode cX11_town 111 = .ok (.goto (-47), 3) := by decide +kernel
theorem dX11_town_114 : decode cX11_town 114 = .ok (.aload_n 0, 1) := by decide +kernel
theorem dX11_town_115 : decode cX11_town 115 = .ok (.getfield 36, 3) := by decide +kernel
theorem dX11_town_118 : decode cX11_town 118 = .ok (.aload_n 0, 1) := by decide +kernel
theorem dX11_town_119 : decode cX11_town 119 = .ok (.getfield 49, 3) := by decide +kernel
theorem dX11_town_122 : decode cX11_town 122 = .ok (.invokevirtual 83, 3) := by decide +kernel
theorem dX11_town_125 : decode cX11_town 125 = .ok (.iload 6, 2) := by decide +kernel
theorem dX11_town_127 : decode cX11_town 127 = .ok (.ireturn, 1) := by decide +kernel
theorem dX11_one_0 : decode cX11_one 0 = .ok (.aload_n 0, 1) := by decide +kernel
theorem dX11_one_1 : decode cX11_one 1 = .ok (.getfield 36, 3) := by decide +kernel
theorem dX11_one_4 : decode cX11_one 4 = .ok (.iload_n 1, 1) := by decide +kernel
theorem dX11_one_5 : decode cX11_one 5 = .ok (.invokevirtual 98, 3) := by decide +kernel
theorem dX11_one_8 : decode cX11_one 8 = .ok (.ifCond .eq 11, 3) := by decide +kernel
theorem dX11_one_11 : decode cX11_one 11 = .ok (.iload_n 2, 1) := by decide +kernel
theorem dX11_one_12 : decode cX11_one 12 = .ok (.iconst 4, 1) := by decide +kernel
theorem dX11_one_13 : decode cX11_one 13 = .ok (.invokestatic 102, 3) := by decide +kernel
theorem dX11_one_16 : decode cX11_one 16 = .ok (.ifCond .ne 5, 3) := by decide +kernel
theorem dX11_one_19 : decode cX11_one 19 = .ok (.iconst (-1), 1) := by decide +kernel
theorem dX11_one_20 : decode cX11_one 20 = .ok (.ireturn, 1) := by decide +kernel
theorem dX11_one_21 : decode cX11_one 21 = .ok (.iload_n 2, 1) := by decide +kernel
theorem dX11_one_22 : decode cX11_one 22 = .ok (.tableswitch 69 0 3 #[30, 40, 50, 60], 30) := by decide +kernel
theorem dX11_one_52 : decode cX11_one 52 = .ok (.aload_n 0, 1) := by decide +kernel
theorem dX11_one_53 : decode cX11_one 53 = .ok (.getfield 36, 3) := by decide +kernel
theorem dX11_one_56 : decode cX11_one 56 = .ok (.getfield 106, 3) := by decide +kernel
theorem dX11_one_59 : decode cX11_one 59 = .ok (.iload_n 1, 1) := by decide +kernel
theorem dX11_one_60 : decode cX11_one 60 = .ok (.iaload, 1) := by decide +kernel
theorem dX11_one_61 : decode cX11_one 61 = .ok (.ireturn, 1) := by decide +kernel
theorem dX11_one_62 : decode cX11_one 62 = .ok (.aload_n 0, 1) := by decide +kernel
theorem dX11_one_63 : decode cX11_one 63 = .ok (.getfield 36, 3) := by decide +kernel
theorem dX11_one_66 : decode cX11_one 66 = .ok (.getfield 109, 3) := by decide +kernel
theorem dX11_one_69 : decode cX11_one 69 = .ok (.iload_n 1, 1) := by decide +kernel
theorem dX11_one_70 : decode cX11_one 70 = .ok (.iaload, 1) := by decide +kernel
theorem dX11_one_71 : decode cX11_one 71 = .ok (.ireturn, 1) := by decide +kernel
theorem dX11_one_72 : decode cX11_one 72 = .ok (.aload_n 0, 1) := by decide +kernel
theorem dX11_one_73 : decode cX11_one 73 = .ok (.getfield 36, 3) := by decide +kernel
theorem dX11_one_76 : decode cX11_one 76 = .ok (.getfield 112, 3) := by decide +kernel
theorem dX11_one_79 : decode cX11_one 79 = .ok (.iload_n 1, 1) := by decide +kernel
theorem dX11_one_80 : decode cX11_one 80 = .ok (.iaload, 1) := by decide +kernel
theorem dX11_one_81 : decode cX11_one 81 = .ok (.ireturn, 1) := by decide +kernel
theorem dX11_one_82 : decode cX11_one 82 = .ok (.aload_n 0, 1) := by decide +kernel
theorem dX11_one_83 : decode cX11_one 83 = .ok (.getfield 36, 3) := by decide +kernel
theorem dX11_one_86 : decode cX11_one 86 = .ok (.iload_n 1, 1) := by decide +kernel
theorem dX11_one_87 : decode cX11_one 87 = .ok (.invokevirtual 115, 3) := by decide +kernel
theorem dX11_one_90 : decode cX11_one 90 = .ok (.ireturn, 1) := by decide +kernel
theorem dX11_one_91 : decode cX11_one 91 = .ok (.aload_n 0, 1) := by decide +kernel
theorem dX11_one_92 : decode cX11_one 92 = .ok (.getfield 36, 3) := by decide +kernel
theorem dX11_one_95 : decode cX11_one 95 = .ok (.iload_n 1, 1) := by decide +kernel
theorem dX11_one_96 : decode cX11_one 96 = .ok (.aload_n 0, 1) := by decide +kernel
theorem dX11_one_97 : decode cX11_one 97 = .ok (.getfield 36, 3) := by decide +kernel
theorem dX11_one_100 : decode cX11_one 100 = .ok (.getfield 118, 3) := by decide +kernel
theorem dX11_one_103 : decode cX11_one 103 = .ok (.iconst 1, 1) := by decide +kernel
theorem dX11_one_104 : decode cX11_one 104 = .ok (.iadd, 1) := by decide +kernel
theorem dX11_one_105 : decode cX11_one 105 = .ok (.invokevirtual 121, 3) := by decide +kernel
theorem dX11_one_108 : decode cX11_one 108 = .ok (.ireturn, 1) := by decide +kernel
theorem dX11_thing_0 : decode cX11_thing 0 = .ok (.iload_n 1, 1) := by decide +kernel
theorem dX11_thing_1 : decode cX11_thing 1 = .ok (.invokestatic 125, 3) := by decide +kernel
theorem dX11_thing_4 : decode cX11_thing 4 = .ok (.ifCond .eq 11, 3) := by decide +kernel
theorem dX11_thing_7 : decode cX11_thing 7 = .ok (.iload_n 2, 1) := by decide +kernel
theorem dX11_thing_8 : decode cX11_thing 8 = .ok (.iconst 2, 1) := by decide +kernel
theorem dX11_thing_9 : decode cX11_thing 9 = .ok (.invokestatic 102, 3) := by decide +kernel
theorem dX11_thing_12 : decode cX11_thing 12 = .ok (.ifCond .ne 5, 3) := by decide +kernel
theorem dX11_thing_15 : decode cX11_thing 15 = .ok (.iconst (-1), 1) := by decide +kernel
theorem dX11_thing_16 : decode cX11_thing 16 = .ok (.ireturn, 1) := by decide +kernel
theorem dX11_thing_17 : decode cX11_thing 17 = .ok (.iload_n 2, 1) := by decide +kernel
theorem dX11_thing_18 : decode cX11_thing 18 = .ok (.ifCond .ne 13, 3) := by decide +kernel
theorem dX11_thing_21 : decode cX11_thing 21 = .ok (.aload_n 0, 1) := by decide +kernel
theorem dX11_thing_22 : decode cX11_thing 22 = .ok (.getfield 36, 3) := by decide +kernel
theorem dX11_thing_25 : decode cX11_thing 25 = .ok (.getfield 128, 3) := by decide +kernel
theorem dX11_thing_28 : decode cX11_thing 28 = .ok (.iload_n 1, 1) := by decide +kernel
theorem dX11_thing_29 : decode cX11_thing 29 = .ok (.iaload, 1) := by decide +kernel
theorem dX11_thing_30 : decode cX11_thing 30 = .ok (.ireturn, 1) := by decide +kernel
theorem dX11_thing_31 : decode cX11_thing 31 = .ok (.iload_n 2, 1) := by decide +kernel
theorem dX11_thing_32 : decode cX11_thing 32 = .ok (.iconst 1, 1) := by decide +kernel
theorem dX11_thing_33 : decode cX11_thing 33 = .ok (.if_icmp .ne 15, 3) := by decide +kernel
theorem dX11_thing_36 : decode cX11_thing 36 = .ok (.aload_n 0, 1) := by decide +kernel
theorem dX11_thing_37 : decode cX11_thing 37 = .ok (.getfield 36, 3) := by decide +kernel
theorem dX11_thing_40 : decode cX11_thing 40 = .ok (.getfield 131, 3) := by decide +kernel
theorem dX11_thing_43 : decode cX11_thing 43 = .ok (.iload_n 1, 1) := by decide +kernel
theorem dX11_thing_44 : decode cX11_thing 44 = .ok (.iaload, 1) := by decide +kernel
theorem dX11_thing_45 : decode cX11_thing 45 = .ok (.goto 15, 3) := by decide +kernel
theorem dX11_thing_48 : decode cX11_thing 48 = .ok (.aload_n 0, 1) := by decide +kernel
theorem dX11_thing_49 : decode cX11_thing 49 = .ok (.getfield 36, 3) := by decide +kernel
theorem dX11_thing_52 : decode cX11_thing 52 = .ok (.getfield 134, 3) := by decide +kernel
theorem dX11_thing_55 : decode cX11_thing 55 = .ok (.iload_n 1, 1) := by decide +kernel
theorem dX11_thing_56 : decode cX11_thing 56 = .ok (.iaload, 1) := by decide +kernel
theorem dX11_thing_57 : decode cX11_thing 57 = .ok (.invokestatic 137, 3) := by decide +kernel
theorem dX11_thing_60 : decode cX11_thing 60 = .ok (.ireturn, 1) := by decide +kernel
theorem dX11_story_0 : decode cX11_story 0 = .ok (.aload_n 0, 1) := by decide +kernel
theorem dX11_story_1 : decode cX11_story 1 = .ok (.getfield 36, 3) := by decide +kernel
theorem dX11_story_4 : decode cX11_story 4 = .ok (.iload_n 1, 1) := by decide +kernel
theorem dX11_story_5 : decode cX11_story 5 = .ok (.invokevirtual 98, 3) := by decide +kernel
theorem dX11_story_8 : decode cX11_story 8 = .ok (.ifCond .eq 18, 3) := by decide +kernel
theorem dX11_story_11 : decode cX11_story 11 = .ok (.iload_n 2, 1) := by decide +kernel
theorem dX11_story_12 : decode cX11_story 12 = .ok (.invokestatic 125, 3) := by decide +kernel
theorem dX11_story_15 : decode cX11_story 15 = .ok (.ifCond .eq 11, 3) := by decide +kernel
theorem dX11_story_18 : decode cX11_story 18 = .ok (.iload_n 3, 1) := by decide +kernel
theorem dX11_story_19 : decode cX11_story 19 = .ok (.iconst 1, 1) := by decide +kernel
theorem dX11_story_20 : decode cX11_story 20 = .ok (.invokestatic 102, 3) := by decide +kernel
theorem dX11_story_23 : decode cX11_story 23 = .ok (.ifCond .ne 5, 3) := by decide +kernel
theorem dX11_story_26 : decode cX11_story 26 = .ok (.iconst (-1), 1) := by decide +kernel
theorem dX11_story_27 : decode cX11_story 27 = .ok (.ireturn, 1) := by decide +kernel
theorem dX11_story_28 : decode cX11_story 28 = .ok (.iload_n 3, 1) := by decide +kernel
theorem dX11_story_29 : decode cX11_story 29 = .ok (.ifCond .ne 19, 3) := by decide +kernel
theorem dX11_story_32 : decode cX11_story 32 = .ok (.aload_n 0, 1) := by decide +kernel
theorem dX11_story_33 : decode cX11_story 33 = .ok (.getfield 36, 3) := by decide +kernel
theorem dX11_story_36 : decode cX11_story 36 = .ok (.getfield 140, 3) := by decide +kernel
theorem dX11_story_39 : decode cX11_story 39 = .ok (.iload_n 1, 1) := by decide +kernel
theorem dX11_story_40 : decode cX11_story 40 = .ok (.iconst 5, 1) := by decide +kernel
theorem dX11_story_41 : decode cX11_story 41 = .ok (.imul, 1) := by decide +kernel
theorem dX11_story_42 : decode cX11_story 42 = .ok (.iload_n 2, 1) := by decide +kernel
theorem dX11_story_43 : decode cX11_story 43 = .ok (.iadd, 1) := by decide +kernel
theorem dX11_story_44 : decode cX11_story 44 = .ok (.iaload, 1) := by decide +kernel
theorem dX11_story_45 : decode cX11_story 45 = .ok (.goto 12, 3) := by decide +kernel
theorem dX11_story_48 : decode cX11_story 48 = .ok (.aload_n 0, 1) := by decide +kernel
theorem dX11_story_49 : decode cX11_story 49 = .ok (.getfield 36, 3) := by decide +kernel
theorem dX11_story_52 : decode cX11_story 52 = .ok (.iload_n 1, 1) := by decide +kernel
theorem dX11_story_53 : decode cX11_story 53 = .ok (.iload_n 2, 1) := by decide +kernel
theorem dX11_story_54 : decode cX11_story 54 = .ok (.invokevirtual 143, 3) := by decide +kernel
theorem dX11_story_57 : decode cX11_story 57 = .ok (.ireturn, 1) := by decide +kernel
theorem dX11_comes_0 : decode cX11_comes 0 = .ok (.iload_n 1, 1) := by decide +kernel
theorem dX11_comes_1 : decode cX11_comes 1 = .ok (.invokestatic 146, 3) := by decide +kernel
theorem dX11_comes_4 : decode cX11_comes 4 = .ok (.ifCond .eq 10, 3) := by decide +kernel
theorem dX11_comes_7 : decode cX11_comes 7 = .ok (.iload_n 2, 1) := by decide +kernel
theorem dX11_comes_8 : decode cX11_comes 8 = .ok (.invokestatic 149, 3) := by decide +kernel
theorem dX11_comes_11 : decode cX11_comes 11 = .ok (.ifCond .ne 5, 3) := by decide +kernel
theorem dX11_comes_14 : decode cX11_comes 14 = .ok (.iconst (-1), 1) := by decide +kernel
theorem dX11_comes_15 : decode cX11_comes 15 = .ok (.ireturn, 1) := by decide +kernel
theorem dX11_comes_16 : decode cX11_comes 16 = .ok (.aload_n 0, 1) := by decide +kernel
theorem dX11_comes_17 : decode cX11_comes 17 = .ok (.iload_n 1, 1) := by decide +kernel
theorem dX11_comes_18 : decode cX11_comes 18 = .ok (.invokevirtual 152, 3) := by decide +kernel
theorem dX11_comes_21 : decode cX11_comes 21 = .ok (.istore_n 3, 1) := by decide +kernel
theorem dX11_comes_22 : decode cX11_comes 22 = .ok (.iload_n 3, 1) := by decide +kernel
theorem dX11_comes_23 : decode cX11_comes 23 = .ok (.ifCond .eq 5, 3) := by decide +kernel
theorem dX11_comes_26 : decode cX11_comes 26 = .ok (.iload_n 3, 1) := by decide +kernel
theorem dX11_comes_27 : decode cX11_comes 27 = .ok (.ireturn, 1) := by decide +kernel
theorem dX11_comes_28 : decode cX11_comes 28 = .ok (.aload_n 0, 1) := by decide +kernel
theorem dX11_comes_29 : decode cX11_comes 29 = .ok (.getfield 54, 3) := by decide +kernel
theorem dX11_comes_32 : decode cX11_comes 32 = .ok (.iload_n 1, 1) := by decide +kernel
theorem dX11_comes_33 : decode cX11_comes 33 = .ok (.aaload, 1) := by decide +kernel
theorem dX11_comes_34 : decode cX11_comes 34 = .ok (.astore 4, 2) := by decide +kernel
theorem dX11_comes_36 : decode cX11_comes 36 = .ok (.aload_n 0, 1) := by decide +kernel
theorem dX11_comes_37 : decode cX11_comes 37 = .ok (.getfield 36, 3) := by decide +kernel
theorem dX11_comes_40 : decode cX11_comes 40 = .ok (.aload 4, 2) := by decide +kernel
theorem dX11_comes_42 : decode cX11_comes 42 = .ok (.getfield 155, 3) := by decide +kernel
theorem dX11_comes_45 : decode cX11_comes 45 = .ok (.aload 4, 2) := by decide +kernel
theorem dX11_comes_47 : decode cX11_comes 47 = .ok (.getfield 157, 3) := by decide +kernel
theorem dX11_comes_50 : decode cX11_comes 50 = .ok (.iload_n 2, 1) := by decide +kernel
theorem dX11_comes_51 : decode cX11_comes 51 = .ok (.invokevirtual 159, 3) := by decide +kernel
theorem dX11_comes_54 : decode cX11_comes 54 = .ok (.ifCond .eq 15, 3) := by decide +kernel
theorem dX11_comes_57 : decode cX11_comes 57 = .ok (.aload_n 0, 1) := by decide +kernel
theorem dX11_comes_58 : decode cX11_comes 58 = .ok (.getfield 36, 3) := by decide +kernel
theorem dX11_comes_61 : decode cX11_comes 61 = .ok (.getfield 163, 3) := by decide +kernel
theorem dX11_comes_64 : decode cX11_comes 64 = .ok (.iconst 1, 1) := by decide +kernel
theorem dX11_comes_65 : decode cX11_comes 65 = .ok (.isub, 1) := by decide +kernel
theorem dX11_comes_66 : decode cX11_comes 66 = .ok (.goto 5, 3) := by decide +kernel
theorem dX11_comes_69 : decode cX11_comes 69 = .ok (.bipush (-2), 2) := by decide +kernel
theorem dX11_comes_71 : decode cX11_comes 71 = .ok (.ireturn, 1) := by decide +kernel
theorem dX11_learns_0 : decode cX11_learns 0 = .ok (.aload_n 0, 1) := by decide +kernel
theorem dX11_learns_1 : decode cX11_learns 1 = .ok (.getfield 36, 3) := by decide +kernel
theorem dX11_learns_4 : decode cX11_learns 4 = .ok (.iload_n 1, 1) := by decide +kernel
theorem dX11_learns_5 : decode cX11_learns 5 = .ok (.iload_n 2, 1) := by decide +kernel
theorem dX11_learns_6 : decode cX11_learns 6 = .ok (.iload_n 3, 1) := by decide +kernel
theorem dX11_learns_7 : decode cX11_learns 7 = .ok (.invokevirtual 166, 3) := by decide +kernel
theorem dX11_learns_10 : decode cX11_learns 10 = .ok (.ifCond .ne 5, 3) := by decide +kernel
theorem dX11_learns_13 : decode cX11_learns 13 = .ok (.iconst (-1), 1) := by decide +kernel
theorem dX11_learns_14 : decode cX11_learns 14 = .ok (.ireturn, 1) := by decide +kernel
theorem dX11_learns_15 : decode cX11_learns 15 = .ok (.aload_n 0, 1) := by decide +kernel
theorem dX11_learns_16 : decode cX11_learns 16 = .ok (.getfield 36, 3) := by decide +kernel
theorem dX11_learns_19 : decode cX11_learns 19 = .ok (.getfield 140, 3) := by decide +kernel
theorem dX11_learns_22 : decode cX11_learns 22 = .ok (.iload_n 1, 1) := by decide +kernel
theorem dX11_learns_23 : decode cX11_learns 23 = .ok (.iconst 5, 1) := by decide +kernel
theorem dX11_learns_24 : decode cX11_learns 24 = .ok (.imul, 1) := by decide +kernel
theorem dX11_learns_25 : decode cX11_learns 25 = .ok (.iload_n 2, 1) := by decide +kernel
theorem dX11_learns_26 : decode cX11_learns 26 = .ok (.iadd, 1) := by decide +kernel
theorem dX11_learns_27 : decode cX11_learns 27 = .ok (.iaload, 1) := by decide +kernel
theorem dX11_learns_28 : decode cX11_learns 28 = .ok (.iload_n 3, 1) := by decide +kernel
theorem dX11_learns_29 : decode cX11_learns 29 = .ok (.ishr, 1) := by decide +kernel
theorem dX11_learns_30 : decode cX11_learns 30 = .ok (.iconst 1, 1) := by decide +kernel
theorem dX11_learns_31 : decode cX11_learns 31 = .ok (.iand, 1) := by decide +kernel
theorem dX11_learns_32 : decode cX11_learns 32 = .ok (.ireturn, 1) := by decide +kernel
theorem dX11_cares_0 : decode cX11_cares 0 = .ok (.aload_n 0, 1) := by decide +kernel
theorem dX11_cares_1 : decode cX11_cares 1 = .ok (.getfield 36, 3) := by decide +kernel
theorem dX11_cares_4 : decode cX11_cares 4 = .ok (.iload_n 1, 1) := by decide +kernel
theorem dX11_cares_5 : decode cX11_cares 5 = .ok (.invokevirtual 98, 3) := by decide +kernel
theorem dX11_cares_8 : decode cX11_cares 8 = .ok (.ifCond .ne 5, 3) := by decide +kernel
theorem dX11_cares_11 : decode cX11_cares 11 = .ok (.iconst (-1), 1) := by decide +kernel
theorem dX11_cares_12 : decode cX11_cares 12 = .ok (.ireturn, 1) := by decide +kernel
theorem dX11_cares_13 : decode cX11_cares 13 = .ok (.aload_n 0, 1) := by decide +kernel
theorem dX11_cares_14 : decode cX11_cares 14 = .ok (.getfield 36, 3) := by decide +kernel
theorem dX11_cares_17 : decode cX11_cares 17 = .ok (.getfield 112, 3) := by decide +kernel
theorem dX11_cares_20 : decode cX11_cares 20 = .ok (.iload_n 1, 1) := by decide +kernel
theorem dX11_cares_21 : decode cX11_cares 21 = .ok (.iaload, 1) := by decide +kernel
theorem dX11_cares_22 : decode cX11_cares 22 = .ok (.istore_n 3, 1) := by decide +kernel
theorem dX11_cares_23 : decode cX11_cares 23 = .ok (.aload_n 0, 1) := by decide +kernel
theorem dX11_cares_24 : decode cX11_cares 24 = .ok (.getfield 36, 3) := by decide +kernel
theorem dX11_cares_27 : decode cX11_cares 27 = .ok (.iload_n 1, 1) := by decide +kernel
theorem dX11_cares_28 : decode cX11_cares 28 = .ok (.iload_n 2, 1) := by decide +kernel
theorem dX11_cares_29 : decode cX11_cares 29 = .ok (.invokevirtual 169, 3) := by decide +kernel
theorem dX11_cares_32 : decode cX11_cares 32 = .ok (.ifCond .eq 7, 3) := by decide +kernel
theorem dX11_cares_35 : decode cX11_cares 35 = .ok (.iload_n 3, 1) := by decide +kernel
theorem dX11_cares_36 : decode cX11_cares 36 = .ok (.goto 4, 3) := by decide +kernel
theorem dX11_cares_39 : decode cX11_cares 39 = .ok (.iconst (-1), 1) := by decide +kernel
theorem dX11_cares_40 : decode cX11_cares 40 = .ok (.ireturn, 1) := by decide +kernel
theorem dX11_gives_0 : decode cX11_gives 0 = .ok (.iload_n 1, 1) := by decide +kernel
theorem dX11_gives_1 : decode cX11_gives 1 = .ok (.invokestatic 125, 3) := by decide +kernel
theorem dX11_gives_4 : decode cX11_gives 4 = .ok (.ifCond .ne 5, 3) := by decide +kernel
theorem dX11_gives_7 : decode cX11_gives 7 = .ok (.iconst (-1), 1) := by decide +kernel
theorem dX11_gives_8 : decode cX11_gives 8 = .ok (.ireturn, 1) := by decide +kernel
theorem dX11_gives_9 : decode cX11_gives 9 = .ok (.aload_n 0, 1) := by decide +kernel
theorem dX11_gives_10 : decode cX11_gives 10 = .ok (.getfield 36, 3) := by decide +kernel
theorem dX11_gives_13 : decode cX11_gives 13 = .ok (.getfield 134, 3) := by decide +kernel
theorem dX11_gives_16 : decode cX11_gives 16 = .ok (.iload_n 1, 1) := by decide +kernel
theorem dX11_gives_17 : decode cX11_gives 17 = .ok (.iaload, 1) := by decide +kernel
theorem dX11_gives_18 : decode cX11_gives 18 = .ok (.istore_n 3, 1) := by decide +kernel
theorem dX11_gives_19 : decode cX11_gives 19 = .ok (.aload_n 0, 1) := by decide +kernel
theorem dX11_gives_20 : decode cX11_gives 20 = .ok (.getfield 36, 3) := by decide +kernel
theorem dX11_gives_23 : decode cX11_gives 23 = .ok (.iload_n 1, 1) := by decide +kernel
theorem dX11_gives_24 : decode cX11_gives 24 = .ok (.iload_n 2, 1) := by decide +kernel
theorem dX11_gives_25 : decode cX11_gives 25 = .ok (.invokevirtual 172, 3) := by decide +kernel
theorem dX11_gives_28 : decode cX11_gives 28 = .ok (.ifCond .eq 10, 3) := by decide +kernel
theorem dX11_gives_31 : decode cX11_gives 31 = .ok (.iload_n 3, 1) := by decide +kernel
theorem dX11_gives_32 : decode cX11_gives 32 = .ok (.invokestatic 137, 3) := by decide +kernel
theorem dX11_gives_35 : decode cX11_gives 35 = .ok (.goto 4, 3) := by decide +kernel
theorem dX11_gives_38 : decode cX11_gives 38 = .ok (.iconst (-1), 1) := by decide +kernel
theorem dX11_gives_39 : decode cX11_gives 39 = .ok (.ireturn, 1) := by decide +kernel
theorem dX11_past_0 : decode cX11_past 0 = .ok (.iload_n 1, 1) := by decide +kernel
theorem dX11_past_1 : decode cX11_past 1 = .ok (.invokestatic 125, 3) := by decide +kernel
theorem dX11_past_4 : decode cX11_past 4 = .ok (.ifCond .eq 13, 3) := by decide +kernel
theorem dX11_past_7 : decode cX11_past 7 = .ok (.iload_n 2, 1) := by decide +kernel
theorem dX11_past_8 : decode cX11_past 8 = .ok (.sipush 4095, 3) := by decide +kernel
theorem dX11_past_11 : decode cX11_past 11 = .ok (.invokestatic 102, 3) := by decide +kernel
theorem dX11_past_14 : decode cX11_past 14 = .ok (.ifCond .ne 5, 3) := by decide +kernel
theorem dX11_past_17 : decode cX11_past 17 = .ok (.iconst (-1), 1) := by decide +kernel
theorem dX11_past_18 : decode cX11_past 18 = .ok (.ireturn, 1) := by decide +kernel
theorem dX11_past_19 : decode cX11_past 19 = .ok (.aload_n 0, 1) := by decide +kernel
theorem dX11_past_20 : decode cX11_past 20 = .ok (.getfield 36, 3) := by decide +kernel
theorem dX11_past_23 : decode cX11_past 23 = .ok (.getfield 128, 3) := by decide +kernel
theorem dX11_past_26 : decode cX11_past 26 = .ok (.iload_n 1, 1) := by decide +kernel
theorem dX11_past_27 : decode cX11_past 27 = .ok (.iaload, 1) := by decide +kernel
theorem dX11_past_28 : decode cX11_past 28 = .ok (.istore_n 3, 1) := by decide +kernel
theorem dX11_past_29 : decode cX11_past 29 = .ok (.aload_n 0, 1) := by decide +kernel
theorem dX11_past_30 : decode cX11_past 30 = .ok (.getfield 36, 3) := by decide +kernel
theorem dX11_past_33 : decode cX11_past 33 = .ok (.getfield 128, 3) := by decide +kernel
theorem dX11_past_36 : decode cX11_past 36 = .ok (.iload_n 1, 1) := by decide +kernel
theorem dX11_past_37 : decode cX11_past 37 = .ok (.iload_n 2, 1) := by decide +kernel
theorem dX11_past_38 : decode cX11_past 38 = .ok (.iastore, 1) := by decide +kernel
theorem dX11_past_39 : decode cX11_past 39 = .ok (.iload_n 3, 1) := by decide +kernel
theorem dX11_past_40 : decode cX11_past 40 = .ok (.ireturn, 1) := by decide +kernel
theorem dX11_days_0 : decode cX11_days 0 = .ok (.iload_n 1, 1) := by decide +kernel
theorem dX11_days_1 : decode cX11_days 1 = .ok (.iconst 1, 1) := by decide +kernel
theorem dX11_days_2 : decode cX11_days 2 = .ok (.if_icmp .lt 9, 3) := by decide +kernel
theorem dX11_days_5 : decode cX11_days 5 = .ok (.iload_n 1, 1) := by decide +kernel
theorem dX11_days_6 : decode cX11_days 6 = .ok (.bipush 60, 2) := by decide +kernel
theorem dX11_days_8 : decode cX11_days 8 = .ok (.if_icmp .le 5, 3) := by decide +kernel
theorem dX11_days_11 : decode cX11_days 11 = .ok (.iconst (-1), 1) := by decide +kernel
theorem dX11_days_12 : decode cX11_days 12 = .ok (.ireturn, 1) := by decide +kernel
theorem dX11_days_13 : decode cX11_days 13 = .ok (.aload_n 0, 1) := by decide +kernel
theorem dX11_days_14 : decode cX11_days 14 = .ok (.getfield 36, 3) := by decide +kernel
theorem dX11_days_17 : decode cX11_days 17 = .ok (.iload_n 1, 1) := by decide +kernel
theorem dX11_days_18 : decode cX11_days 18 = .ok (.invokevirtual 175, 3) := by decide +kernel
theorem dX11_days_21 : decode cX11_days 21 = .ok (.ifCond .eq 16, 3) := by decide +kernel
theorem dX11_days_24 : decode cX11_days 24 = .ok (.aload_n 0, 1) := by decide +kernel
theorem dX11_days_25 : decode cX11_days 25 = .ok (.getfield 36, 3) := by decide +kernel
theorem dX11_days_28 : decode cX11_days 28 = .ok (.invokevirtual 178, 3) := by decide +kernel
theorem dX11_days_31 : decode cX11_days 31 = .ok (.invokestatic 182, 3) := by decide +kernel
theorem dX11_days_34 : decode cX11_days 34 = .ok (.goto 5, 3) := by decide +kernel
theorem dX11_days_37 : decode cX11_days 37 = .ok (.bipush (-3), 2) := by decide +kernel
theorem dX11_days_39 : decode cX11_days 39 = .ok (.ireturn, 1) := by decide +kernel
theorem dX11_ownerThen_0 : decode cX11_ownerThen 0 = .ok (.iload_n 1, 1) := by decide +kernel
theorem dX11_ownerThen_1 : decode cX11_ownerThen 1 = .ok (.invokestatic 125, 3) := by decide +kernel
theorem dX11_ownerThen_4 : decode cX11_ownerThen 4 = .ok (.ifCond .eq 12, 3) := by decide +kernel
theorem dX11_ownerThen_7 : decode cX11_ownerThen 7 = .ok (.iload_n 2, 1) := by decide +kernel
theorem dX11_ownerThen_8 : decode cX11_ownerThen 8 = .ok (.bipush 60, 2) := by decide +kernel
theorem dX11_ownerThen_10 : decode cX11_ownerThen 10 = .ok (.invokestatic 102, 3) := by decide +kernel
theorem dX11_ownerThen_13 : decode cX11_ownerThen 13 = .ok (.ifCond .ne 5, 3) := by decide +kernel
theorem dX11_ownerThen_16 : decode cX11_ownerThen 16 = .ok (.iconst (-1), 1) := by decide +kernel
theorem dX11_ownerThen_17 : decode cX11_ownerThen 17 = .ok (.ireturn, 1) := by decide +kernel
theorem dX11_ownerThen_18 : decode cX11_ownerThen 18 = .ok (.aload_n 0, 1) := by decide +kernel
theorem dX11_ownerThen_19 : decode cX11_ownerThen 19 = .ok (.iload_n 2, 1) := by decide +kernel
theorem dX11_ownerThen_20 : decode cX11_ownerThen 20 = .ok (.invokevirtual 187, 3) := by decide +kernel
theorem dX11_ownerThen_23 : decode cX11_ownerThen 23 = .ok (.aload_n 0, 1) := by decide +kernel
theorem dX11_ownerThen_24 : decode cX11_ownerThen 24 = .ok (.getfield 49, 3) := by decide +kernel
theorem dX11_ownerThen_27 : decode cX11_ownerThen 27 = .ok (.getfield 134, 3) := by decide +kernel
theorem dX11_ownerThen_30 : decode cX11_ownerThen 30 = .ok (.iload_n 1, 1) := by decide +kernel
theorem dX11_ownerThen_31 : decode cX11_ownerThen 31 = .ok (.iaload, 1) := by decide +kernel
theorem dX11_ownerThen_32 : decode cX11_ownerThen 32 = .ok (.invokestatic 137, 3) := by decide +kernel
theorem dX11_ownerThen_35 : decode cX11_ownerThen 35 = .ok (.ireturn, 1) := by decide +kernel
theorem dX11_storyThen_0 : decode cX11_storyThen 0 = .ok (.aload_n 0, 1) := by decide +kernel
theorem dX11_storyThen_1 : decode cX11_storyThen 1 = .ok (.getfield 36, 3) := by decide +kernel
theorem dX11_storyThen_4 : decode cX11_storyThen 4 = .ok (.iload_n 1, 1) := by decide +kernel
theorem dX11_storyThen_5 : decode cX11_storyThen 5 = .ok (.invokevirtual 98, 3) := by decide +kernel
theorem dX11_storyThen_8 : decode cX11_storyThen 8 = .ok (.ifCond .eq 19, 3) := by decide +kernel
theorem dX11_storyThen_11 : decode cX11_storyThen 11 = .ok (.iload_n 2, 1) := by decide +kernel
theorem dX11_storyThen_12 : decode cX11_storyThen 12 = .ok (.invokestatic 125, 3) := by decide +kernel
theorem dX11_storyThen_15 : decode cX11_storyThen 15 = .ok (.ifCond .eq 12, 3) := by decide +kernel
theorem dX11_storyThen_18 : decode cX11_storyThen 18 = .ok (.iload_n 3, 1) := by decide +kernel
theorem dX11_storyThen_19 : decode cX11_storyThen 19 = .ok (.bipush 60, 2) := by decide +kernel
theorem dX11_storyThen_21 : decode cX11_storyThen 21 = .ok (.invokestatic 102, 3) := by decide +kernel
theorem dX11_storyThen_24 : decode cX11_storyThen 24 = .ok (.ifCond .ne 5, 3) := by decide +kernel
theorem dX11_storyThen_27 : decode cX11_storyThen 27 = .ok (.iconst (-1), 1) := by decide +kernel
theorem dX11_storyThen_28 : decode cX11_storyThen 28 = .ok (.ireturn, 1) := by decide +kernel
theorem dX11_storyThen_29 : decode cX11_storyThen 29 = .ok (.aload_n 0, 1) := by decide +kernel
theorem dX11_storyThen_30 : decode cX11_storyThen 30 = .ok (.iload_n 3, 1) := by decide +kernel
theorem dX11_storyThen_31 : decode cX11_storyThen 31 = .ok (.invokevirtual 187, 3) := by decide +kernel
theorem dX11_storyThen_34 : decode cX11_storyThen 34 = .ok (.aload_n 0, 1) := by decide +kernel
theorem dX11_storyThen_35 : decode cX11_storyThen 35 = .ok (.getfield 49, 3) := by decide +kernel
theorem dX11_storyThen_38 : decode cX11_storyThen 38 = .ok (.iload_n 1, 1) := by decide +kernel
theorem dX11_storyThen_39 : decode cX11_storyThen 39 = .ok (.iload_n 2, 1) := by decide +kernel
theorem dX11_storyThen_40 : decode cX11_storyThen 40 = .ok (.invokevirtual 143, 3) := by decide +kernel
theorem dX11_storyThen_43 : decode cX11_storyThen 43 = .ok (.ireturn, 1) := by decide +kernel
theorem dX11_ownsThen_0 : decode cX11_ownsThen 0 = .ok (.aload_n 0, 1) := by decide +kernel
theorem dX11_ownsThen_1 : decode cX11_ownsThen 1 = .ok (.getfield 36, 3) := by decide +kernel
theorem dX11_ownsThen_4 : decode cX11_ownsThen 4 = .ok (.iload_n 1, 1) := by decide +kernel
theorem dX11_ownsThen_5 : decode cX11_ownsThen 5 = .ok (.invokevirtual 98, 3) := by decide +kernel
theorem dX11_ownsThen_8 : decode cX11_ownsThen 8 = .ok (.ifCond .eq 20, 3) := by decide +kernel
theorem dX11_ownsThen_11 : decode cX11_ownsThen 11 = .ok (.iload_n 2, 1) := by decide +kernel
theorem dX11_ownsThen_12 : decode cX11_ownsThen 12 = .ok (.bipush 60, 2) := by decide +kernel
theorem dX11_ownsThen_14 : decode cX11_ownsThen 14 = .ok (.invokestatic 102, 3) := by decide +kernel
theorem dX11_ownsThen_17 : decode cX11_ownsThen 17 = .ok (.ifCond .eq 11, 3) := by decide +kernel
theorem dX11_ownsThen_20 : decode cX11_ownsThen 20 = .ok (.iload_n 3, 1) := by decide +kernel
theorem dX11_ownsThen_21 : decode cX11_ownsThen 21 = .ok (.iconst 1, 1) := by decide +kernel
theorem dX11_ownsThen_22 : decode cX11_ownsThen 22 = .ok (.invokestatic 102, 3) := by decide +kernel
theorem dX11_ownsThen_25 : decode cX11_ownsThen 25 = .ok (.ifCond .ne 5, 3) := by decide +kernel
theorem dX11_ownsThen_28 : decode cX11_ownsThen 28 = .ok (.iconst (-1), 1) := by decide +kernel
theorem dX11_ownsThen_29 : decode cX11_ownsThen 29 = .ok (.ireturn, 1) := by decide +kernel
theorem dX11_ownsThen_30 : decode cX11_ownsThen 30 = .ok (.aload_n 0, 1) := by decide +kernel
theorem dX11_ownsThen_31 : decode cX11_ownsThen 31 = .ok (.iload_n 2, 1) := by decide +kernel
theorem dX11_ownsThen_32 : decode cX11_ownsThen 32 = .ok (.invokevirtual 187, 3) := by decide +kernel
theorem dX11_ownsThen_35 : decode cX11_ownsThen 35 = .ok (.iload_n 3, 1) := by decide +kernel
theorem dX11_ownsThen_36 : decode cX11_ownsThen 36 = .ok (.ifCond .ne 14, 3) := by decide +kernel
theorem dX11_ownsThen_39 : decode cX11_ownsThen 39 = .ok (.aload_n 0, 1) := by decide +kernel
theorem dX11_ownsThen_40 : decode cX11_ownsThen 40 = .ok (.getfield 49, 3) := by decide +kernel
theorem dX11_ownsThen_43 : decode cX11_ownsThen 43 = .ok (.iload_n 1, 1) := by decide +kernel
theorem dX11_ownsThen_44 : decode cX11_ownsThen 44 = .ok (.invokevirtual 115, 3) := by decide +kernel
theorem dX11_ownsThen_47 : decode cX11_ownsThen 47 = .ok (.goto 11, 3) := by decide +kernel
theorem dX11_ownsThen_50 : decode cX11_ownsThen 50 = .ok (.aload_n 0, 1) := by decide +kernel
theorem dX11_ownsThen_51 : decode cX11_ownsThen 51 = .ok (.getfield 49, 3) := by decide +kernel
theorem dX11_ownsThen_54 : decode cX11_ownsThen 54 = .ok (.iload_n 1, 1) := by decide +kernel
theorem dX11_ownsThen_55 : decode cX11_ownsThen 55 = .ok (.invokevirtual 191, 3) := by decide +kernel
theorem dX11_ownsThen_58 : decode cX11_ownsThen 58 = .ok (.ireturn, 1) := by decide +kernel
theorem dX11_when_0 : decode cX11_when 0 = .ok (.aload_n 0, 1) := by decide +kernel
theorem dX11_when_1 : decode cX11_when 1 = .ok (.getfield 36, 3) := by decide +kernel
theorem dX11_when_4 : decode cX11_when 4 = .ok (.iload_n 1, 1) := by decide +kernel
theorem dX11_when_5 : decode cX11_when 5 = .ok (.invokevirtual 98, 3) := by decide +kernel
theorem dX11_when_8 : decode cX11_when 8 = .ok (.ifCond .eq 10, 3) := by decide +kernel
theorem dX11_when_11 : decode cX11_when 11 = .ok (.iload_n 2, 1) := by decide +kernel
theorem dX11_when_12 : decode cX11_when 12 = .ok (.invokestatic 125, 3) := by decide +kernel
theorem dX11_when_15 : decode cX11_when 15 = .ok (.ifCond .ne 5, 3) := by decide +kernel
theorem dX11_when_18 : decode cX11_when 18 = .ok (.iconst (-1), 1) := by decide +kernel
theorem dX11_when_19 : decode cX11_when 19 = .ok (.ireturn, 1) := by decide +kernel
theorem dX11_when_20 : decode cX11_when 20 = .ok (.aload_n 0, 1) := by decide +kernel
theorem dX11_when_21 : decode cX11_when 21 = .ok (.getfield 49, 3) := by decide +kernel
theorem dX11_when_24 : decode cX11_when 24 = .ok (.aload_n 0, 1) := by decide +kernel
theorem dX11_when_25 : decode cX11_when 25 = .ok (.getfield 36, 3) := by decide +kernel
theorem dX11_when_28 : decode cX11_when 28 = .ok (.invokevirtual 83, 3) := by decide +kernel
theorem dX11_when_31 : decode cX11_when 31 = .ok (.iconst 0, 1) := by decide +kernel
theorem dX11_when_32 : decode cX11_when 32 = .ok (.istore_n 3, 1) := by decide +kernel
theorem dX11_when_33 : decode cX11_when 33 = .ok (.iload_n 3, 1) := by decide +kernel
theorem dX11_when_34 : decode cX11_when 34 = .ok (.bipush 60, 2) := by decide +kernel
theorem dX11_when_36 : decode cX11_when 36 = .ok (.if_icmp .gt 32, 3) := by decide +kernel
theorem dX11_when_39 : decode cX11_when 39 = .ok (.aload_n 0, 1) := by decide +kernel
theorem dX11_when_40 : decode cX11_when 40 = .ok (.getfield 49, 3) := by decide +kernel
theorem dX11_when_43 : decode cX11_when 43 = .ok (.getfield 134, 3) := by decide +kernel
theorem dX11_when_46 : decode cX11_when 46 = .ok (.iload_n 2, 1) := by decide +kernel
theorem dX11_when_47 : decode cX11_when 47 = .ok (.iaload, 1) := by decide +kernel
theorem dX11_when_48 : decode cX11_when 48 = .ok (.iload_n 1, 1) := by decide +kernel
theorem dX11_when_49 : decode cX11_when 49 = .ok (.if_icmp .ne 5, 3) := by decide +kernel
theorem dX11_when_52 : decode cX11_when 52 = .ok (.iload_n 3, 1) := by decide +kernel
theorem dX11_when_53 : decode cX11_when 53 = .ok (.ireturn, 1) := by decide +kernel
theorem dX11_when_54 : decode cX11_when 54 = .ok (.aload_n 0, 1) := by decide +kernel
theorem dX11_when_55 : decode cX11_when 55 = .ok (.getfield 49, 3) := by decide +kernel
theorem dX11_when_58 : decode cX11_when 58 = .ok (.invokevirtual 194, 3) := by decide +kernel
theorem dX11_when_61 : decode cX11_when 61 = .ok (.pop, 1) := by decide +kernel
theorem dX11_when_62 : decode cX11_when 62 = .ok (.iinc 3 1, 3) := by decide +kernel
theorem dX11_when_65 : decode cX11_when 65 = .ok (.goto (-32), 3) := by decide +kernel
theorem dX11_when_68 : decode cX11_when 68 = .ok (.bipush (-4), 2) := by decide +kernel
theorem dX11_when_70 : decode cX11_when 70 = .ok (.ireturn, 1) := by decide +kernel
theorem dX11_loses_0 : decode cX11_loses 0 = .ok (.iload_n 1, 1) := by decide +kernel
theorem dX11_loses_1 : decode cX11_loses 1 = .ok (.invokestatic 125, 3) := by decide +kernel
theorem dX11_loses_4 : decode cX11_loses 4 = .ok (.ifCond .ne 5, 3) := by decide +kernel
theorem dX11_loses_7 : decode cX11_loses 7 = .ok (.iconst (-1), 1) := by decide +kernel
theorem dX11_loses_8 : decode cX11_loses 8 = .ok (.ireturn, 1) := by decide +kernel
theorem dX11_loses_9 : decode cX11_loses 9 = .ok (.aload_n 0, 1) := by decide +kernel
theorem dX11_loses_10 : decode cX11_loses 10 = .ok (.getfield 36, 3) := by decide +kernel
theorem dX11_loses_13 : decode cX11_loses 13 = .ok (.getfield 134, 3) := by decide +kernel
theorem dX11_loses_16 : decode cX11_loses 16 = .ok (.iload_n 1, 1) := by decide +kernel
theorem dX11_loses_17 : decode cX11_loses 17 = .ok (.iaload, 1) := by decide +kernel
theorem dX11_loses_18 : decode cX11_loses 18 = .ok (.bipush 9, 2) := by decide +kernel
theorem dX11_loses_20 : decode cX11_loses 20 = .ok (.if_icmp .ne 6, 3) := by decide +kernel
theorem dX11_loses_23 : decode cX11_loses 23 = .ok (.bipush (-4), 2) := by decide +kernel
theorem dX11_loses_25 : decode cX11_loses 25 = .ok (.ireturn, 1) := by decide +kernel
theorem dX11_loses_26 : decode cX11_loses 26 = .ok (.aload_n 0, 1) := by decide +kernel
theorem dX11_loses_27 : decode cX11_loses 27 = .ok (.getfield 49, 3) := by decide +kernel
theorem dX11_loses_30 : decode cX11_loses 30 = .ok (.aload_n 0, 1) := by decide +kernel
theorem dX11_loses_31 : decode cX11_loses 31 = .ok (.getfield 36, 3) := by decide +kernel
theorem dX11_loses_34 : decode cX11_loses 34 = .ok (.invokevirtual 83, 3) := by decide +kernel
theorem dX11_loses_37 : decode cX11_loses 37 = .ok (.iconst 0, 1) := by decide +kernel
theorem dX11_loses_38 : decode cX11_loses 38 = .ok (.istore_n 2, 1) := by decide +kernel
theorem dX11_loses_39 : decode cX11_loses 39 = .ok (.iload_n 2, 1) := by decide +kernel
theorem dX11_loses_40 : decode cX11_loses 40 = .ok (.bipush 60, 2) := by decide +kernel
theorem dX11_loses_42 : decode cX11_loses 42 = .ok (.if_icmp .gt 40, 3) := by decide +kernel
theorem dX11_loses_45 : decode cX11_loses 45 = .ok (.aload_n 0, 1) := by decide +kernel
theorem dX11_loses_46 : decode cX11_loses 46 = .ok (.getfield 49, 3) := by decide +kernel
theorem dX11_loses_49 : decode cX11_loses 49 = .ok (.getfield 134, 3) := by decide +kernel
theorem dX11_loses_52 : decode cX11_loses 52 = .ok (.iload_n 1, 1) := by decide +kernel
theorem dX11_loses_53 : decode cX11_loses 53 = .ok (.iaload, 1) := by decide +kernel
theorem dX11_loses_54 : decode cX11_loses 54 = .ok (.aload_n 0, 1) := by decide +kernel
theorem dX11_loses_55 : decode cX11_loses 55 = .ok (.getfield 36, 3) := by decide +kernel
theorem dX11_loses_58 : decode cX11_loses 58 = .ok (.getfield 134, 3) := by decide +kernel
theorem dX11_loses_61 : decode cX11_loses 61 = .ok (.iload_n 1, 1) := by decide +kernel
theorem dX11_loses_62 : decode cX11_loses 62 = .ok (.iaload, 1) := by decide +kernel
theorem dX11_loses_63 : decode cX11_loses 63 = .ok (.if_icmp .eq 5, 3) := by decide +kernel
theorem dX11_loses_66 : decode cX11_loses 66 = .ok (.iload_n 2, 1) := by decide +kernel
theorem dX11_loses_67 : decode cX11_loses 67 = .ok (.ireturn, 1) := by decide +kernel
theorem dX11_loses_68 : decode cX11_loses 68 = .ok (.aload_n 0, 1) := by decide +kernel
theorem dX11_loses_69 : decode cX11_loses 69 = .ok (.getfield 49, 3) := by decide +kernel
theorem dX11_loses_72 : decode cX11_loses 72 = .ok (.invokevirtual 194, 3) := by decide +kernel
theorem dX11_loses_75 : decode cX11_loses 75 = .ok (.pop, 1) := by decide +kernel
theorem dX11_loses_76 : decode cX11_loses 76 = .ok (.iinc 2 1, 3) := by decide +kernel
theorem dX11_loses_79 : decode cX11_loses 79 = .ok (.goto (-40), 3) := by decide +kernel
theorem dX11_loses_82 : decode cX11_loses 82 = .ok (.bipush (-4), 2) := by decide +kernel
theorem dX11_loses_84 : decode cX11_loses 84 = .ok (.ireturn, 1) := by decide +kernel
theorem dX11_lookAfter_0 : decode cX11_lookAfter 0 = .ok (.aload_n 0, 1) := by decide +kernel
theorem dX11_lookAfter_1 : decode cX11_lookAfter 1 = .ok (.getfield 36, 3) := by decide +kernel
theorem dX11_lookAfter_4 : decode cX11_lookAfter 4 = .ok (.iload_n 1, 1) := by decide +kernel
theorem dX11_lookAfter_5 : decode cX11_lookAfter 5 = .ok (.invokevirtual 98, 3) := by decide +kernel
theorem dX11_lookAfter_8 : decode cX11_lookAfter 8 = .ok (.ifCond .eq 20, 3) := by decide +kernel
theorem dX11_lookAfter_11 : decode cX11_lookAfter 11 = .ok (.iload_n 2, 1) := by decide +kernel
theorem dX11_lookAfter_12 : decode cX11_lookAfter 12 = .ok (.bipush 60, 2) := by decide +kernel
theorem dX11_lookAfter_14 : decode cX11_lookAfter 14 = .ok (.invokestatic 102, 3) := by decide +kernel
theorem dX11_lookAfter_17 : decode cX11_lookAfter 17 = .ok (.ifCond .eq 11, 3) := by decide +kernel
theorem dX11_lookAfter_20 : decode cX11_lookAfter 20 = .ok (.iload_n 3, 1) := by decide +kernel
theorem dX11_lookAfter_21 : decode cX11_lookAfter 21 = .ok (.iconst 1, 1) := by decide +kernel
theorem dX11_lookAfter_22 : decode cX11_lookAfter 22 = .ok (.invokestatic 102, 3) := by decide +kernel
theorem dX11_lookAfter_25 : decode cX11_lookAfter 25 = .ok (.ifCond .ne 5, 3) := by decide +kernel
theorem dX11_lookAfter_28 : decode cX11_lookAfter 28 = .ok (.iconst (-1), 1) := by decide +kernel
theorem dX11_lookAfter_29 : decode cX11_lookAfter 29 = .ok (.ireturn, 1) := by decide +kernel
theorem dX11_lookAfter_30 : decode cX11_lookAfter 30 = .ok (.iconst (-1), 1) := by decide +kernel
theorem dX11_lookAfter_31 : decode cX11_lookAfter 31 = .ok (.istore 4, 2) := by decide +kernel
theorem dX11_lookAfter_33 : decode cX11_lookAfter 33 = .ok (.bipush 9, 2) := by decide +kernel
theorem dX11_lookAfter_35 : decode cX11_lookAfter 35 = .ok (.istore 5, 2) := by decide +kernel
theorem dX11_lookAfter_37 : decode cX11_lookAfter 37 = .ok (.iconst 0, 1) := by decide +kernel
theorem dX11_lookAfter_38 : decode cX11_lookAfter 38 = .ok (.istore 6, 2) := by decide +kernel
theorem dX11_lookAfter_40 : decode cX11_lookAfter 40 = .ok (.iload 6, 2) := by decide +kernel
theorem dX11_lookAfter_42 : decode cX11_lookAfter 42 = .ok (.iconst 5, 1) := by decide +kernel
theorem dX11_lookAfter_43 : decode cX11_lookAfter 43 = .ok (.if_icmp .gt 79, 3) := by decide +kernel
theorem dX11_lookAfter_46 : decode cX11_lookAfter 46 = .ok (.iload 6, 2) := by decide +kernel
theorem dX11_lookAfter_48 : decode cX11_lookAfter 48 = .ok (.iconst 5, 1) := by decide +kernel
theorem dX11_lookAfter_49 : decode cX11_lookAfter 49 = .ok (.if_icmp .ge 8, 3) := by decide +kernel
theorem dX11_lookAfter_52 : decode cX11_lookAfter 52 = .ok (.iload 6, 2) := by decide +kernel
theorem dX11_lookAfter_54 : decode cX11_lookAfter 54 = .ok (.goto 5, 3) := by decide +kernel
theorem dX11_lookAfter_57 : decode cX11_lookAfter 57 = .ok (.bipush 9, 2) := by decide +kernel
theorem dX11_lookAfter_59 : decode cX11_lookAfter 59 = .ok (.istore 7, 2) := by decide +kernel
theorem dX11_lookAfter_61 : decode cX11_lookAfter 61 = .ok (.aload_n 0, 1) := by decide +kernel
theorem dX11_lookAfter_62 : decode cX11_lookAfter 62 = .ok (.getfield 49, 3) := by decide +kernel
theorem dX11_lookAfter_65 : decode cX11_lookAfter 65 = .ok (.aload_n 0, 1) := by decide +kernel
theorem dX11_lookAfter_66 : decode cX11_lookAfter 66 = .ok (.getfield 36, 3) := by decide +kernel
theorem dX11_lookAfter_69 : decode cX11_lookAfter 69 = .ok (.invokevirtual 83, 3) := by decide +kernel
theorem dX11_lookAfter_72 : decode cX11_lookAfter 72 = .ok (.aload_n 0, 1) := by decide +kernel
theorem dX11_lookAfter_73 : decode cX11_lookAfter 73 = .ok (.getfield 49, 3) := by decide +kernel
theorem dX11_lookAfter_76 : decode cX11_lookAfter 76 = .ok (.getfield 112, 3) := by decide +kernel
theorem dX11_lookAfter_79 : decode cX11_lookAfter 79 = .ok (.iload_n 1, 1) := by decide +kernel
theorem dX11_lookAfter_80 : decode cX11_lookAfter 80 = .ok (.iload 7, 2) := by decide +kernel
theorem dX11_lookAfter_82 : decode cX11_lookAfter 82 = .ok (.iastore, 1) := by decide +kernel
theorem dX11_lookAfter_83 : decode cX11_lookAfter 83 = .ok (.aload_n 0, 1) := by decide +kernel
theorem dX11_lookAfter_84 : decode cX11_lookAfter 84 = .ok (.getfield 49, 3) := by decide +kernel
theorem dX11_lookAfter_87 : decode cX11_lookAfter 87 = .ok (.iload_n 2, 1) := by decide +kernel
theorem dX11_lookAfter_88 : decode cX11_lookAfter 88 = .ok (.invokevirtual 198, 3) := by decide +kernel
theorem dX11_lookAfter_91 : decode cX11_lookAfter 91 = .ok (.aload_n 0, 1) := by decide +kernel
theorem dX11_lookAfter_92 : decode cX11_lookAfter 92 = .ok (.getfield 49, 3) := by decide +kernel
theorem dX11_lookAfter_95 : decode cX11_lookAfter 95 = .ok (.iload_n 1, 1) := by decide +kernel
theorem dX11_lookAfter_96 : decode cX11_lookAfter 96 = .ok (.invokevirtual 191, 3) := by decide +kernel
theorem dX11_lookAfter_99 : decode cX11_lookAfter 99 = .ok (.istore 8, 2) := by decide +kernel
theorem dX11_lookAfter_101 : decode cX11_lookAfter 101 = .ok (.iload 8, 2) := by decide +kernel
theorem dX11_lookAfter_103 : decode cX11_lookAfter 103 = .ok (.iload 4, 2) := by decide +kernel
theorem dX11_lookAfter_105 : decode cX11_lookAfter 105 = .ok (.if_icmp .le 11, 3) := by decide +kernel
theorem dX11_lookAfter_108 : decode cX11_lookAfter 108 = .ok (.iload 8, 2) := by decide +kernel
theorem dX11_lookAfter_110 : decode cX11_lookAfter 110 = .ok (.istore 4, 2) := by decide +kernel
theorem dX11_lookAfter_112 : decode cX11_lookAfter 112 = .ok (.iload 7, 2) := by decide +kernel
theorem dX11_lookAfter_114 : decode cX11_lookAfter 114 = .ok (.istore 5, 2) := by decide +kernel
theorem dX11_lookAfter_116 : decode cX11_lookAfter 116 = .ok (.iinc 6 1, 3) := by decide +kernel
theorem dX11_lookAfter_119 : decode cX11_lookAfter 119 = .ok (.goto (-79), 3) := by decide +kernel
theorem dX11_lookAfter_122 : decode cX11_lookAfter 122 = .ok (.iload_n 3, 1) := by decide +kernel
theorem dX11_lookAfter_123 : decode cX11_lookAfter 123 = .ok (.ifCond .ne 8, 3) := by decide +kernel
theorem dX11_lookAfter_126 : decode cX11_lookAfter 126 = .ok (.iload 5, 2) := by decide +kernel
theorem dX11_lookAfter_128 : decode cX11_lookAfter 128 = .ok (.goto 5, 3) := by decide +kernel
theorem dX11_lookAfter_131 : decode cX11_lookAfter 131 = .ok (.iload 4, 2) := by decide +kernel
theorem dX11_lookAfter_133 : decode cX11_lookAfter 133 = .ok (.ireturn, 1) := by decide +kernel
theorem dX11_win_0 : decode cX11_win 0 = .ok (.aload_n 0, 1) := by decide +kernel
theorem dX11_win_1 : decode cX11_win 1 = .ok (.getfield 36, 3) := by decide +kernel
theorem dX11_win_4 : decode cX11_win 4 = .ok (.iload_n 1, 1) := by decide +kernel
theorem dX11_win_5 : decode cX11_win 5 = .ok (.invokevirtual 98, 3) := by decide +kernel
theorem dX11_win_8 : decode cX11_win 8 = .ok (.ifCond .eq 10, 3) := by decide +kernel
theorem dX11_win_11 : decode cX11_win 11 = .ok (.iload_n 2, 1) := by decide +kernel
theorem dX11_win_12 : decode cX11_win 12 = .ok (.invokestatic 125, 3) := by decide +kernel
theorem dX11_win_15 : decode cX11_win 15 = .ok (.ifCond .ne 5, 3) := by decide +kernel
theorem dX11_win_18 : decode cX11_win 18 = .ok (.iconst (-1), 1) := by decide +kernel
theorem dX11_win_19 : decode cX11_win 19 = .ok (.ireturn, 1) := by decide +kernel
theorem dX11_win_20 : decode cX11_win 20 = .ok (.iconst 0, 1) := by decide +kernel
theorem dX11_win_21 : decode cX11_win 21 = .ok (.istore_n 3, 1) := by decide +kernel
theorem dX11_win_22 : decode cX11_win 22 = .ok (.iconst 0, 1) := by decide +kernel
theorem dX11_win_23 : decode cX11_win 23 = .ok (.istore 4, 2) := by decide +kernel
theorem dX11_win_25 : decode cX11_win 25 = .ok (.iload 4, 2) := by decide +kernel
theorem dX11_win_27 : decode cX11_win 27 = .ok (.aload_n 0, 1) := by decide +kernel
theorem dX11_win_28 : decode cX11_win 28 = .ok (.getfield 36, 3) := by decide +kernel
theorem dX11_win_31 : decode cX11_win 31 = .ok (.getfield 163, 3) := by decide +kernel
theorem dX11_win_34 : decode cX11_win 34 = .ok (.if_icmp .ge 30, 3) := by decide +kernel
theorem dX11_win_37 : decode cX11_win 37 = .ok (.iload 4, 2) := by decide +kernel
theorem dX11_win_39 : decode cX11_win 39 = .ok (.iload_n 1, 1) := by decide +kernel
theorem dX11_win_40 : decode cX11_win 40 = .ok (.if_icmp .eq 18, 3) := by decide +kernel
theorem dX11_win_43 : decode cX11_win 43 = .ok (.iload_n 3, 1) := by decide +kernel
theorem dX11_win_44 : decode cX11_win 44 = .ok (.aload_n 0, 1) := by decide +kernel
theorem dX11_win_45 : decode cX11_win 45 = .ok (.getfield 36, 3) := by decide +kernel
theorem dX11_win_48 : decode cX11_win 48 = .ok (.iload 4, 2) := by decide +kernel
theorem dX11_win_50 : decode cX11_win 50 = .ok (.iload_n 2, 1) := by decide +kernel
theorem dX11_win_51 : decode cX11_win 51 = .ok (.invokevirtual 143, 3) := by decide +kernel
theorem dX11_win_54 : decode cX11_win 54 = .ok (.invokestatic 201, 3) := by decide +kernel
theorem dX11_win_57 : decode cX11_win 57 = .ok (.istore_n 3, 1) := by decide +kernel
theorem dX11_win_58 : decode cX11_win 58 = .ok (.iinc 4 1, 3) := by decide +kernel
theorem dX11_win_61 : decode cX11_win 61 = .ok (.goto (-36), 3) := by decide +kernel
theorem dX11_win_64 : decode cX11_win 64 = .ok (.aload_n 0, 1) := by decide +kernel
theorem dX11_win_65 : decode cX11_win 65 = .ok (.getfield 36, 3) := by decide +kernel
theorem dX11_win_68 : decode cX11_win 68 = .ok (.getfield 140, 3) := by decide +kernel
theorem dX11_win_71 : decode cX11_win 71 = .ok (.iload_n 1, 1) := by decide +kernel
theorem dX11_win_72 : decode cX11_win 72 = .ok (.iconst 5, 1) := by decide +kernel
theorem dX11_win_73 : decode cX11_win 73 = .ok (.imul, 1) := by decide +kernel
theorem dX11_win_74 : decode cX11_win 74 = .ok (.iload_n 2, 1) := by decide +kernel
theorem dX11_win_75 : decode cX11_win 75 = .ok (.iadd, 1) := by decide +kernel
theorem dX11_win_76 : decode cX11_win 76 = .ok (.iaload, 1) := by decide +kernel
theorem dX11_win_77 : decode cX11_win 77 = .ok (.istore 4, 2) := by decide +kernel
theorem dX11_win_79 : decode cX11_win 79 = .ok (.iconst 0, 1) := by decide +kernel
theorem dX11_win_80 : decode cX11_win 80 = .ok (.istore 5, 2) := by decide +kernel
theorem dX11_win_82 : decode cX11_win 82 = .ok (.iload 5, 2) := by decide +kernel
theorem dX11_win_84 : decode cX11_win 84 = .ok (.bipush 12, 2) := by decide +kernel
theorem dX11_win_86 : decode cX11_win 86 = .ok (.if_icmp .gt 62, 3) := by decide +kernel
theorem dX11_win_89 : decode cX11_win 89 = .ok (.aload_n 0, 1) := by decide +kernel
theorem dX11_win_90 : decode cX11_win 90 = .ok (.getfield 36, 3) := by decide +kernel
theorem dX11_win_93 : decode cX11_win 93 = .ok (.iload_n 1, 1) := by decide +kernel
theorem dX11_win_94 : decode cX11_win 94 = .ok (.iload_n 2, 1) := by decide +kernel
theorem dX11_win_95 : decode cX11_win 95 = .ok (.iload 4, 2) := by decide +kernel
theorem dX11_win_97 : decode cX11_win 97 = .ok (.invokevirtual 206, 3) := by decide +kernel
theorem dX11_win_100 : decode cX11_win 100 = .ok (.iload_n 3, 1) := by decide +kernel
theorem dX11_win_101 : decode cX11_win 101 = .ok (.if_icmp .le 6, 3) := by decide +kernel
theorem dX11_win_104 : decode cX11_win 104 = .ok (.iload 5, 2) := by decide +kernel
theorem dX11_win_106 : decode cX11_win 106 = .ok (.ireturn, 1) := by decide +kernel
theorem dX11_win_107 : decode cX11_win 107 = .ok (.aload_n 0, 1) := by decide +kernel
theorem dX11_win_108 : decode cX11_win 108 = .ok (.getfield 36, 3) := by decide +kernel
theorem dX11_win_111 : decode cX11_win 111 = .ok (.getfield 128, 3) := by decide +kernel
theorem dX11_win_114 : decode cX11_win 114 = .ok (.iload_n 2, 1) := by decide +kernel
theorem dX11_win_115 : decode cX11_win 115 = .ok (.iaload, 1) := by decide +kernel
theorem dX11_win_116 : decode cX11_win 116 = .ok (.iload 4, 2) := by decide +kernel
theorem dX11_win_118 : decode cX11_win 118 = .ok (.iconst (-1), 1) := by decide +kernel
theorem dX11_win_119 : decode cX11_win 119 = .ok (.ixor, 1) := by decide +kernel
theorem dX11_win_120 : decode cX11_win 120 = .ok (.iand, 1) := by decide +kernel
theorem dX11_win_121 : decode cX11_win 121 = .ok (.istore 6, 2) := by decide +kernel
theorem dX11_win_123 : decode cX11_win 123 = .ok (.iload 6, 2) := by decide +kernel
theorem dX11_win_125 : decode cX11_win 125 = .ok (.ifCond .ne 6, 3) := by decide +kernel
theorem dX11_win_128 : decode cX11_win 128 = .ok (.bipush (-4), 2) := by decide +kernel
theorem dX11_win_130 : decode cX11_win 130 = .ok (.ireturn, 1) := by decide +kernel
theorem dX11_win_131 : decode cX11_win 131 = .ok (.iload 4, 2) := by decide +kernel
theorem dX11_win_133 : decode cX11_win 133 = .ok (.iload 6, 2) := by decide +kernel
theorem dX11_win_135 : decode cX11_win 135 = .ok (.iload 6, 2) := by decide +kernel
theorem dX11_win_137 : decode cX11_win 137 = .ok (.ineg, 1) := by decide +kernel
theorem dX11_win_138 : decode cX11_win 138 = .ok (.iand, 1) := by decide +kernel
theorem dX11_win_139 : decode cX11_win 139 = .ok (.ior, 1) := by decide +kernel
theorem dX11_win_140 : decode cX11_win 140 = .ok (.istore 4, 2) := by decide +kernel
theorem dX11_win_142 : decode cX11_win 142 = .ok (.iinc 5 1, 3) := by decide +kernel
theorem dX11_win_145 : decode cX11_win 145 = .ok (.goto (-63), 3) := by decide +kernel
theorem dX11_win_148 : decode cX11_win 148 = .ok (.bipush (-4), 2) := by decide +kernel
theorem dX11_win_150 : decode cX11_win 150 = .ok (.ireturn, 1) := by decide +kernel
theorem dX11_ask_0 : decode cX11_ask 0 = .ok (.aload_n 0, 1) := by decide +kernel
theorem dX11_ask_1 : decode cX11_ask 1 = .ok (.getfield 36, 3) := by decide +kernel
theorem dX11_ask_4 : decode cX11_ask 4 = .ok (.iload_n 1, 1) := by decide +kernel
theorem dX11_ask_5 : decode cX11_ask 5 = .ok (.invokevirtual 98, 3) := by decide +kernel
theorem dX11_ask_8 : decode cX11_ask 8 = .ok (.ifCond .eq 10, 3) := by decide +kernel
theorem dX11_ask_11 : decode cX11_ask 11 = .ok (.iload_n 2, 1) := by decide +kernel
theorem dX11_ask_12 : decode cX11_ask 12 = .ok (.invokestatic 125, 3) := by decide +kernel
theorem dX11_ask_15 : decode cX11_ask 15 = .ok (.ifCond .ne 5, 3) := by decide +kernel
theorem dX11_ask_18 : decode cX11_ask 18 = .ok (.iconst (-1), 1) := by decide +kernel
theorem dX11_ask_19 : decode cX11_ask 19 = .ok (.ireturn, 1) := by decide +kernel
theorem dX11_ask_20 : decode cX11_ask 20 = .ok (.aload_n 0, 1) := by decide +kernel
theorem dX11_ask_21 : decode cX11_ask 21 = .ok (.getfield 36, 3) := by decide +kernel
theorem dX11_ask_24 : decode cX11_ask 24 = .ok (.iload_n 1, 1) := by decide +kernel
theorem dX11_ask_25 : decode cX11_ask 25 = .ok (.iload_n 2, 1) := by decide +kernel
theorem dX11_ask_26 : decode cX11_ask 26 = .ok (.invokevirtual 143, 3) := by decide +kernel
theorem dX11_ask_29 : decode cX11_ask 29 = .ok (.istore_n 3, 1) := by decide +kernel
theorem dX11_ask_30 : decode cX11_ask 30 = .ok (.bipush (-4), 2) := by decide +kernel
theorem dX11_ask_32 : decode cX11_ask 32 = .ok (.istore 4, 2) := by decide +kernel
theorem dX11_ask_34 : decode cX11_ask 34 = .ok (.iconst 0, 1) := by decide +kernel
theorem dX11_ask_35 : decode cX11_ask 35 = .ok (.istore 5, 2) := by decide +kernel
theorem dX11_ask_37 : decode cX11_ask 37 = .ok (.iload 5, 2) := by decide +kernel
theorem dX11_ask_39 : decode cX11_ask 39 = .ok (.aload_n 0, 1) := by decide +kernel
theorem dX11_ask_40 : decode cX11_ask 40 = .ok (.getfield 36, 3) := by decide +kernel
theorem dX11_ask_43 : decode cX11_ask 43 = .ok (.getfield 163, 3) := by decide +kernel
theorem dX11_ask_46 : decode cX11_ask 46 = .ok (.if_icmp .ge 61, 3) := by decide +kernel
theorem dX11_ask_49 : decode cX11_ask 49 = .ok (.aload_n 0, 1) := by decide +kernel
theorem dX11_ask_50 : decode cX11_ask 50 = .ok (.getfield 36, 3) := by decide +kernel
theorem dX11_ask_53 : decode cX11_ask 53 = .ok (.iload_n 1, 1) := by decide +kernel
theorem dX11_ask_54 : decode cX11_ask 54 = .ok (.iload_n 2, 1) := by decide +kernel
theorem dX11_ask_55 : decode cX11_ask 55 = .ok (.aload_n 0, 1) := by decide +kernel
theorem dX11_ask_56 : decode cX11_ask 56 = .ok (.getfield 36, 3) := by decide +kernel
theorem dX11_ask_59 : decode cX11_ask 59 = .ok (.getfield 140, 3) := by decide +kernel
theorem dX11_ask_62 : decode cX11_ask 62 = .ok (.iload_n 1, 1) := by decide +kernel
theorem dX11_ask_63 : decode cX11_ask 63 = .ok (.iconst 5, 1) := by decide +kernel
theorem dX11_ask_64 : decode cX11_ask 64 = .ok (.imul, 1) := by decide +kernel
theorem dX11_ask_65 : decode cX11_ask 65 = .ok (.iload_n 2, 1) := by decide +kernel
theorem dX11_ask_66 : decode cX11_ask 66 = .ok (.iadd, 1) := by decide +kernel
theorem dX11_ask_67 : decode cX11_ask 67 = .ok (.iaload, 1) := by decide +kernel
theorem dX11_ask_68 : decode cX11_ask 68 = .ok (.aload_n 0, 1) := by decide +kernel
theorem dX11_ask_69 : decode cX11_ask 69 = .ok (.getfield 36, 3) := by decide +kernel
theorem dX11_ask_72 : decode cX11_ask 72 = .ok (.getfield 140, 3) := by decide +kernel
theorem dX11_ask_75 : decode cX11_ask 75 = .ok (.iload 5, 2) := by decide +kernel
theorem dX11_ask_77 : decode cX11_ask 77 = .ok (.iconst 5, 1) := by decide +kernel
theorem dX11_ask_78 : decode cX11_ask 78 = .ok (.imul, 1) := by decide +kernel
theorem dX11_ask_79 : decode cX11_ask 79 = .ok (.iload_n 2, 1) := by decide +kernel
theorem dX11_ask_80 : decode cX11_ask 80 = .ok (.iadd, 1) := by decide +kernel
theorem dX11_ask_81 : decode cX11_ask 81 = .ok (.iaload, 1) := by decide +kernel
theorem dX11_ask_82 : decode cX11_ask 82 = .ok (.ior, 1) := by decide +kernel
theorem dX11_ask_83 : decode cX11_ask 83 = .ok (.invokevirtual 206, 3) := by decide +kernel
theorem dX11_ask_86 : decode cX11_ask 86 = .ok (.istore 6, 2) := by decide +kernel
theorem dX11_ask_88 : decode cX11_ask 88 = .ok (.iload 6, 2) := by decide +kernel
theorem dX11_ask_90 : decode cX11_ask 90 = .ok (.iload_n 3, 1) := by decide +kernel
theorem dX11_ask_91 : decode cX11_ask 91 = .ok (.if_icmp .le 10, 3) := by decide +kernel
theorem dX11_ask_94 : decode cX11_ask 94 = .ok (.iload 6, 2) := by decide +kernel
theorem dX11_ask_96 : decode cX11_ask 96 = .ok (.istore_n 3, 1) := by decide +kernel
theorem dX11_ask_97 : decode cX11_ask 97 = .ok (.iload 5, 2) := by decide +kernel
theorem dX11_ask_99 : decode cX11_ask 99 = .ok (.istore 4, 2) := by decide +kernel
theorem dX11_ask_101 : decode cX11_ask 101 = .ok (.iinc 5 1, 3) := by decide +kernel
theorem dX11_ask_104 : decode cX11_ask 104 = .ok (.goto (-67), 3) := by decide +kernel
theorem dX11_ask_107 : decode cX11_ask 107 = .ok (.iload 4, 2) := by decide +kernel
theorem dX11_ask_109 : decode cX11_ask 109 = .ok (.ireturn, 1) := by decide +kernel
theorem dX11_care_0 : decode cX11_care 0 = .ok (.iload_n 1, 1) := by decide +kernel
theorem dX11_care_1 : decode cX11_care 1 = .ok (.iconst (-1), 1) := by decide +kernel
theorem dX11_care_2 : decode cX11_care 2 = .ok (.if_icmp .lt 8, 3) := by decide +kernel
theorem dX11_care_5 : decode cX11_care 5 = .ok (.iload_n 1, 1) := by decide +kernel
theorem dX11_care_6 : decode cX11_care 6 = .ok (.iconst 5, 1) := by decide +kernel
theorem dX11_care_7 : decode cX11_care 7 = .ok (.if_icmp .lt 5, 3) := by decide +kernel
theorem dX11_care_10 : decode cX11_care 10 = .ok (.iconst (-1), 1) := by decide +kernel
theorem dX11_care_11 : decode cX11_care 11 = .ok (.ireturn, 1) := by decide +kernel
theorem dX11_care_12 : decode cX11_care 12 = .ok (.aload_n 0, 1) := by decide +kernel
theorem dX11_care_13 : decode cX11_care 13 = .ok (.invokevirtual 210, 3) := by decide +kernel
theorem dX11_care_16 : decode cX11_care 16 = .ok (.aload_n 0, 1) := by decide +kernel
theorem dX11_care_17 : decode cX11_care 17 = .ok (.invokevirtual 213, 3) := by decide +kernel
theorem dX11_care_20 : decode cX11_care 20 = .ok (.iload_n 1, 1) := by decide +kernel
theorem dX11_care_21 : decode cX11_care 21 = .ok (.ifCond .ge 10, 3) := by decide +kernel
theorem dX11_care_24 : decode cX11_care 24 = .ok (.aload_n 0, 1) := by decide +kernel
theorem dX11_care_25 : decode cX11_care 25 = .ok (.getfield 59, 3) := by decide +kernel
theorem dX11_care_28 : decode cX11_care 28 = .ok (.iconst 0, 1) := by decide +kernel
theorem dX11_care_29 : decode cX11_care 29 = .ok (.iaload, 1) := by decide +kernel
theorem dX11_care_30 : decode cX11_care 30 = .ok (.ireturn, 1) := by decide +kernel
theorem dX11_care_31 : decode cX11_care 31 = .ok (.iconst 0, 1) := by decide +kernel
theorem dX11_care_32 : decode cX11_care 32 = .ok (.istore_n 2, 1) := by decide +kernel
theorem dX11_care_33 : decode cX11_care 33 = .ok (.bipush 9, 2) := by decide +kernel
theorem dX11_care_35 : decode cX11_care 35 = .ok (.istore_n 3, 1) := by decide +kernel
theorem dX11_care_36 : decode cX11_care 36 = .ok (.iconst 0, 1) := by decide +kernel
theorem dX11_care_37 : decode cX11_care 37 = .ok (.istore 4, 2) := by decide +kernel
theorem dX11_care_39 : decode cX11_care 39 = .ok (.iload 4, 2) := by decide +kernel
theorem dX11_care_41 : decode cX11_care 41 = .ok (.iload_n 1, 1) := by decide +kernel
theorem dX11_care_42 : decode cX11_care 42 = .ok (.if_icmp .gt 29, 3) := by decide +kernel
theorem dX11_care_45 : decode cX11_care 45 = .ok (.aload_n 0, 1) := by decide +kernel
theorem dX11_care_46 : decode cX11_care 46 = .ok (.iload 4, 2) := by decide +kernel
theorem dX11_care_48 : decode cX11_care 48 = .ok (.iload_n 2, 1) := by decide +kernel
theorem dX11_care_49 : decode cX11_care 49 = .ok (.invokevirtual 216, 3) := by decide +kernel
theorem dX11_care_52 : decode cX11_care 52 = .ok (.istore_n 3, 1) := by decide +kernel
theorem dX11_care_53 : decode cX11_care 53 = .ok (.iload_n 3, 1) := by decide +kernel
theorem dX11_care_54 : decode cX11_care 54 = .ok (.bipush 9, 2) := by decide +kernel
theorem dX11_care_56 : decode cX11_care 56 = .ok (.if_icmp .eq 9, 3) := by decide +kernel
theorem dX11_care_59 : decode cX11_care 59 = .ok (.iload_n 2, 1) := by decide +kernel
theorem dX11_care_60 : decode cX11_care 60 = .ok (.iconst 1, 1) := by decide +kernel
theorem dX11_care_61 : decode cX11_care 61 = .ok (.iload_n 3, 1) := by decide +kernel
theorem dX11_care_62 : decode cX11_care 62 = .ok (.ishl, 1) := by decide +kernel
theorem dX11_care_63 : decode cX11_care 63 = .ok (.ior, 1) := by decide +kernel
theorem dX11_care_64 : decode cX11_care 64 = .ok (.istore_n 2, 1) := by decide +kernel
theorem dX11_care_65 : decode cX11_care 65 = .ok (.iinc 4 1, 3) := by decide +kernel
theorem dX11_care_68 : decode cX11_care 68 = .ok (.goto (-29), 3) := by decide +kernel
theorem dX11_care_71 : decode cX11_care 71 = .ok (.iload_n 3, 1) := by decide +kernel
theorem dX11_care_72 : decode cX11_care 72 = .ok (.invokestatic 137, 3) := by decide +kernel
theorem dX11_care_75 : decode cX11_care 75 = .ok (.ireturn, 1) := by decide +kernel
theorem dX11_richest_0 : decode cX11_richest 0 = .ok (.iload_n 1, 1) := by decide +kernel
theorem dX11_richest_1 : decode cX11_richest 1 = .ok (.tableswitch 59 0 3 #[31, 36, 49, 54], 31) := by decide +kernel
theorem dX11_richest_32 : decode cX11_richest 32 = .ok (.aload_n 0, 1) := by decide +kernel
theorem dX11_richest_33 : decode cX11_richest 33 = .ok (.invokevirtual 219, 3) := by decide +kernel
theorem dX11_richest_36 : decode cX11_richest 36 = .ok (.ireturn, 1) := by decide +kernel
theorem dX11_richest_37 : decode cX11_richest 37 = .ok (.bipush 31, 2) := by decide +kernel
theorem dX11_richest_39 : decode cX11_richest 39 = .ok (.aload_n 0, 1) := by decide +kernel
theorem dX11_richest_40 : decode cX11_richest 40 = .ok (.getfield 36, 3) := by decide +kernel
theorem dX11_richest_43 : decode cX11_richest 43 = .ok (.invokevirtual 178, 3) := by decide +kernel
theorem dX11_richest_46 : decode cX11_richest 46 = .ok (.iconst (-1), 1) := by decide +kernel
theorem dX11_richest_47 : decode cX11_richest 47 = .ok (.ixor, 1) := by decide +kernel
theorem dX11_richest_48 : decode cX11_richest 48 = .ok (.iand, 1) := by decide +kernel
theorem dX11_richest_49 : decode cX11_richest 49 = .ok (.ireturn, 1) := by decide +kernel
theorem dX11_richest_50 : decode cX11_richest 50 = .ok (.aload_n 0, 1) := by decide +kernel
theorem dX11_richest_51 : decode cX11_richest 51 = .ok (.invokevirtual 222, 3) := by decide +kernel
theorem dX11_richest_54 : decode cX11_richest 54 = .ok (.ireturn, 1) := by decide +kernel
theorem dX11_richest_55 : decode cX11_richest 55 = .ok (.aload_n 0, 1) := by decide +kernel
theorem dX11_richest_56 : decode cX11_richest 56 = .ok (.invokevirtual 225, 3) := by decide +kernel
theorem dX11_richest_59 : decode cX11_richest 59 = .ok (.ireturn, 1) := by decide +kernel
theorem dX11_richest_60 : decode cX11_richest 60 = .ok (.iconst (-1), 1) := by decide +kernel
theorem dX11_richest_61 : decode cX11_richest 61 = .ok (.ireturn, 1) := by decide +kernel
theorem dX11_common_0 : decode cX11_common 0 = .ok (.iload_n 1, 1) := by decide +kernel
theorem dX11_common_1 : decode cX11_common 1 = .ok (.invokestatic 125, 3) := by decide +kernel
theorem dX11_common_4 : decode cX11_common 4 = .ok (.ifCond .eq 11, 3) := by decide +kernel
theorem dX11_common_7 : decode cX11_common 7 = .ok (.iload_n 2, 1) := by decide +kernel
theorem dX11_common_8 : decode cX11_common 8 = .ok (.iconst 3, 1) := by decide +kernel
theorem dX11_common_9 : decode cX11_common 9 = .ok (.invokestatic 102, 3) := by decide +kernel
theorem dX11_common_12 : decode cX11_common 12 = .ok (.ifCond .ne 5, 3) := by decide +kernel
theorem dX11_common_15 : decode cX11_common 15 = .ok (.iconst (-1), 1) := by decide +kernel
theorem dX11_common_16 : decode cX11_common 16 = .ok (.ireturn, 1) := by decide +kernel
theorem dX11_common_17 : decode cX11_common 17 = .ok (.iload_n 2, 1) := by decide +kernel
theorem dX11_common_18 : decode cX11_common 18 = .ok (.iconst 3, 1) := by decide +kernel
theorem dX11_common_19 : decode cX11_common 19 = .ok (.if_icmp .ne 9, 3) := by decide +kernel
theorem dX11_common_22 : decode cX11_common 22 = .ok (.aload_n 0, 1) := by decide +kernel
theorem dX11_common_23 : decode cX11_common 23 = .ok (.iload_n 1, 1) := by decide +kernel
theorem dX11_common_24 : decode cX11_common 24 = .ok (.invokevirtual 228, 3) := by decide +kernel
theorem dX11_common_27 : decode cX11_common 27 = .ok (.ireturn, 1) := by decide +kernel
theorem dX11_common_28 : decode cX11_common 28 = .ok (.aload_n 0, 1) := by decide +kernel
theorem dX11_common_29 : decode cX11_common 29 = .ok (.getfield 36, 3) := by decide +kernel
theorem dX11_common_32 : decode cX11_common 32 = .ok (.getfield 163, 3) := by decide +kernel
theorem dX11_common_35 : decode cX11_common 35 = .ok (.ifCond .ne 7, 3) := by decide +kernel
theorem dX11_common_38 : decode cX11_common 38 = .ok (.iconst 0, 1) := by decide +kernel
theorem dX11_common_39 : decode cX11_common 39 = .ok (.goto 6, 3) := by decide +kernel
theorem dX11_common_42 : decode cX11_common 42 = .ok (.sipush 4095, 3) := by decide +kernel
theorem dX11_common_45 : decode cX11_common 45 = .ok (.istore_n 3, 1) := by decide +kernel
theorem dX11_common_46 : decode cX11_common 46 = .ok (.iconst 0, 1) := by decide +kernel
theorem dX11_common_47 : decode cX11_common 47 = .ok (.istore 4, 2) := by decide +kernel
theorem dX11_common_49 : decode cX11_common 49 = .ok (.iconst 0, 1) := by decide +kernel
theorem dX11_common_50 : decode cX11_common 50 = .ok (.istore 5, 2) := by decide +kernel
theorem dX11_common_52 : decode cX11_common 52 = .ok (.iconst 0, 1) := by decide +kernel
theorem dX11_common_53 : decode cX11_common 53 = .ok (.istore 6, 2) := by decide +kernel
theorem dX11_common_55 : decode cX11_common 55 = .ok (.iload 6, 2) := by decide +kernel
theorem dX11_common_57 : decode cX11_common 57 = .ok (.aload_n 0, 1) := by decide +kernel
theorem dX11_common_58 : decode cX11_common 58 = .ok (.getfield 36, 3) := by decide +kernel
theorem dX11_common_61 : decode cX11_common 61 = .ok (.getfield 163, 3) := by decide +kernel
theorem dX11_common_64 : decode cX11_common 64 = .ok (.if_icmp .ge 47, 3) := by decide +kernel
theorem dX11_common_67 : decode cX11_common 67 = .ok (.aload_n 0, 1) := by decide +kernel
theorem dX11_common_68 : decode cX11_common 68 = .ok (.getfield 36, 3) := by decide +kernel
theorem dX11_common_71 : decode cX11_common 71 = .ok (.getfield 140, 3) := by decide +kernel
theorem dX11_common_74 : decode cX11_common 74 = .ok (.iload 6, 2) := by decide +kernel
theorem dX11_common_76 : decode cX11_common 76 = .ok (.iconst 5, 1) := by decide +kernel
theorem dX11_common_77 : decode cX11_common 77 = .ok (.imul, 1) := by decide +kernel
theorem dX11_common_78 : decode cX11_common 78 = .ok (.iload_n 1, 1) := by decide +kernel
theorem dX11_common_79 : decode cX11_common 79 = .ok (.iadd, 1) := by decide +kernel
theorem dX11_common_80 : decode cX11_common 80 = .ok (.iaload, 1) := by decide +kernel
theorem dX11_common_81 : decode cX11_common 81 = .ok (.istore 7, 2) := by decide +kernel
theorem dX11_common_83 : decode cX11_common 83 = .ok (.iload_n 3, 1) := by decide +kernel
theorem dX11_common_84 : decode cX11_common 84 = .ok (.iload 7, 2) := by decide +kernel
theorem dX11_common_86 : decode cX11_common 86 = .ok (.iand, 1) := by decide +kernel
theorem dX11_common_87 : decode cX11_common 87 = .ok (.istore_n 3, 1) := by decide +kernel
theorem dX11_common_88 : decode cX11_common 88 = .ok (.iload 5, 2) := by decide +kernel
theorem dX11_common_90 : decode cX11_common 90 = .ok (.iload 4, 2) := by decide +kernel
theorem dX11_common_92 : decode cX11_common 92 = .ok (.iload 7, 2) := by decide +kernel
theorem dX11_common_94 : decode cX11_common 94 = .ok (.iand, 1) := by decide +kernel
theorem dX11_common_95 : decode cX11_common 95 = .ok (.ior, 1) := by decide +kernel
theorem dX11_common_96 : decode cX11_common 96 = .ok (.istore 5, 2) := by decide +kernel
theorem dX11_common_98 : decode cX11_common 98 = .ok (.iload 4, 2) := by decide +kernel
theorem dX11_common_100 : decode cX11_common 100 = .ok (.iload 7, 2) := by decide +kernel
theorem dX11_common_102 : decode cX11_common 102 = .ok (.ior, 1) := by decide +kernel
theorem dX11_common_103 : decode cX11_common 103 = .ok (.istore 4, 2) := by decide +kernel
theorem dX11_common_105 : decode cX11_common 105 = .ok (.iinc 6 1, 3) := by decide +kernel
theorem dX11_common_108 : decode cX11_common 108 = .ok (.goto (-53), 3) := by decide +kernel
theorem dX11_common_111 : decode cX11_common 111 = .ok (.iload_n 2, 1) := by decide +kernel
theorem dX11_common_112 : decode cX11_common 112 = .ok (.ifCond .ne 5, 3) := by decide +kernel
theorem dX11_common_115 : decode cX11_common 115 = .ok (.iload_n 3, 1) := by decide +kernel
theorem dX11_common_116 : decode cX11_common 116 = .ok (.ireturn, 1) := by decide +kernel
theorem dX11_common_117 : decode cX11_common 117 = .ok (.iload_n 2, 1) := by decide +kernel
theorem dX11_common_118 : decode cX11_common 118 = .ok (.iconst 1, 1) := by decide +kernel
theorem dX11_common_119 : decode cX11_common 119 = .ok (.if_icmp .ne 13, 3) := by decide +kernel
theorem dX11_common_122 : decode cX11_common 122 = .ok (.iload 4, 2) := by decide +kernel
theorem dX11_common_124 : decode cX11_common 124 = .ok (.iload 5, 2) := by decide +kernel
theorem dX11_common_126 : decode cX11_common 126 = .ok (.iconst (-1), 1) := by decide +kernel
theorem dX11_common_127 : decode cX11_common 127 = .ok (.ixor, 1) := by decide +kernel
theorem dX11_common_128 : decode cX11_common 128 = .ok (.iand, 1) := by decide +kernel
theorem dX11_common_129 : decode cX11_common 129 = .ok (.goto 17, 3) := by decide +kernel
theorem dX11_common_132 : decode cX11_common 132 = .ok (.aload_n 0, 1) := by decide +kernel
theorem dX11_common_133 : decode cX11_common 133 = .ok (.getfield 36, 3) := by decide +kernel
theorem dX11_common_136 : decode cX11_common 136 = .ok (.getfield 128, 3) := by decide +kernel
theorem dX11_common_139 : decode cX11_common 139 = .ok (.iload_n 1, 1) := by decide +kernel
theorem dX11_common_140 : decode cX11_common 140 = .ok (.iaload, 1) := by decide +kernel
theorem dX11_common_141 : decode cX11_common 141 = .ok (.iload 4, 2) := by decide +kernel
theorem dX11_common_143 : decode cX11_common 143 = .ok (.iconst (-1), 1) := by decide +kernel
theorem dX11_common_144 : decode cX11_common 144 = .ok (.ixor, 1) := by decide +kernel
theorem dX11_common_145 : decode cX11_common 145 = .ok (.iand, 1) := by decide +kernel
theorem dX11_common_146 : decode cX11_common 146 = .ok (.ireturn, 1) := by decide +kernel
theorem dX11_whatIs_0 : decode cX11_whatIs 0 = .ok (.iload_n 1, 1) := by decide +kernel
theorem dX11_whatIs_1 : decode cX11_whatIs 1 = .ok (.invokestatic 146, 3) := by decide +kernel
theorem dX11_whatIs_4 : decode cX11_whatIs 4 = .ok (.ifCond .eq 22, 3) := by decide +kernel
theorem dX11_whatIs_7 : decode cX11_whatIs 7 = .ok (.aload_n 0, 1) := by decide +kernel
theorem dX11_whatIs_8 : decode cX11_whatIs 8 = .ok (.getfield 36, 3) := by decide +kernel
theorem dX11_whatIs_11 : decode cX11_whatIs 11 = .ok (.iload_n 2, 1) := by decide +kernel
theorem dX11_whatIs_12 : decode cX11_whatIs 12 = .ok (.invokevirtual 98, 3) := by decide +kernel
theorem dX11_whatIs_15 : decode cX11_whatIs 15 = .ok (.ifCond .eq 11, 3) := by decide +kernel
theorem dX11_whatIs_18 : decode cX11_whatIs 18 = .ok (.iload_n 3, 1) := by decide +kernel
theorem dX11_whatIs_19 : decode cX11_whatIs 19 = .ok (.iconst 1, 1) := by decide +kernel
theorem dX11_whatIs_20 : decode cX11_whatIs 20 = .ok (.invokestatic 102, 3) := by decide +kernel
theorem dX11_whatIs_23 : decode cX11_whatIs 23 = .ok (.ifCond .ne 5, 3) := by decide +kernel
theorem dX11_whatIs_26 : decode cX11_whatIs 26 = .ok (.iconst (-1), 1) := by decide +kernel
theorem dX11_whatIs_27 : decode cX11_whatIs 27 = .ok (.ireturn, 1) := by decide +kernel
theorem dX11_whatIs_28 : decode cX11_whatIs 28 = .ok (.aload_n 0, 1) := by decide +kernel
theorem dX11_whatIs_29 : decode cX11_whatIs 29 = .ok (.iload_n 1, 1) := by decide +kernel
theorem dX11_whatIs_30 : decode cX11_whatIs 30 = .ok (.invokevirtual 69, 3) := by decide +kernel
theorem dX11_whatIs_33 : decode cX11_whatIs 33 = .ok (.istore 4, 2) := by decide +kernel
theorem dX11_whatIs_35 : decode cX11_whatIs 35 = .ok (.iload 4, 2) := by decide +kernel
theorem dX11_whatIs_37 : decode cX11_whatIs 37 = .ok (.ifCond .eq 6, 3) := by decide +kernel
theorem dX11_whatIs_40 : decode cX11_whatIs 40 = .ok (.iload 4, 2) := by decide +kernel
theorem dX11_whatIs_42 : decode cX11_whatIs 42 = .ok (.ireturn, 1) := by decide +kernel
theorem dX11_whatIs_43 : decode cX11_whatIs 43 = .ok (.iload_n 3, 1) := by decide +kernel
theorem dX11_whatIs_44 : decode cX11_whatIs 44 = .ok (.ifCond .ne 8, 3) := by decide +kernel
theorem dX11_whatIs_47 : decode cX11_whatIs 47 = .ok (.bipush 8, 2) := by decide +kernel
theorem dX11_whatIs_49 : decode cX11_whatIs 49 = .ok (.goto 5, 3) := by decide +kernel
theorem dX11_whatIs_52 : decode cX11_whatIs 52 = .ok (.bipush 10, 2) := by decide +kernel
theorem dX11_whatIs_54 : decode cX11_whatIs 54 = .ok (.istore 5, 2) := by decide +kernel
theorem dX11_whatIs_56 : decode cX11_whatIs 56 = .ok (.iconst 0, 1) := by decide +kernel
theorem dX11_whatIs_57 : decode cX11_whatIs 57 = .ok (.istore 6, 2) := by decide +kernel
theorem dX11_whatIs_59 : decode cX11_whatIs 59 = .ok (.iconst 0, 1) := by decide +kernel
theorem dX11_whatIs_60 : decode cX11_whatIs 60 = .ok (.istore 7, 2) := by decide +kernel
theorem dX11_whatIs_62 : decode cX11_whatIs 62 = .ok (.iload 7, 2) := by decide +kernel
theorem dX11_whatIs_64 : decode cX11_whatIs 64 = .ok (.iload 5, 2) := by decide +kernel
theorem dX11_whatIs_66 : decode cX11_whatIs 66 = .ok (.if_icmp .ge 72, 3) := by decide +kernel
theorem dX11_whatIs_69 : decode cX11_whatIs 69 = .ok (.aload_n 0, 1) := by decide +kernel
theorem dX11_whatIs_70 : decode cX11_whatIs 70 = .ok (.getfield 49, 3) := by decide +kernel
theorem dX11_whatIs_73 : decode cX11_whatIs 73 = .ok (.aload_n 0, 1) := by decide +kernel
theorem dX11_whatIs_74 : decode cX11_whatIs 74 = .ok (.getfield 36, 3) := by decide +kernel
theorem dX11_whatIs_77 : decode cX11_whatIs 77 = .ok (.invokevirtual 83, 3) := by decide +kernel
theorem dX11_whatIs_80 : decode cX11_whatIs 80 = .ok (.iload_n 3, 1) := by decide +kernel
theorem dX11_whatIs_81 : decode cX11_whatIs 81 = .ok (.ifCond .ne 17, 3) := by decide +kernel
theorem dX11_whatIs_84 : decode cX11_whatIs 84 = .ok (.aload_n 0, 1) := by decide +kernel
theorem dX11_whatIs_85 : decode cX11_whatIs 85 = .ok (.getfield 49, 3) := by decide +kernel
theorem dX11_whatIs_88 : decode cX11_whatIs 88 = .ok (.getfield 106, 3) := by decide +kernel
theorem dX11_whatIs_91 : decode cX11_whatIs 91 = .ok (.iload_n 2, 1) := by decide +kernel
theorem dX11_whatIs_92 : decode cX11_whatIs 92 = .ok (.iload 7, 2) := by decide +kernel
theorem dX11_whatIs_94 : decode cX11_whatIs 94 = .ok (.iastore, 1) := by decide +kernel
theorem dX11_whatIs_95 : decode cX11_whatIs 95 = .ok (.goto 14, 3) := by decide +kernel
theorem dX11_whatIs_98 : decode cX11_whatIs 98 = .ok (.aload_n 0, 1) := by decide +kernel
theorem dX11_whatIs_99 : decode cX11_whatIs 99 = .ok (.getfield 49, 3) := by decide +kernel
theorem dX11_whatIs_102 : decode cX11_whatIs 102 = .ok (.getfield 109, 3) := by decide +kernel
theorem dX11_whatIs_105 : decode cX11_whatIs 105 = .ok (.iload_n 2, 1) := by decide +kernel
theorem dX11_whatIs_106 : decode cX11_whatIs 106 = .ok (.iload 7, 2) := by decide +kernel
theorem dX11_whatIs_108 : decode cX11_whatIs 108 = .ok (.iastore, 1) := by decide +kernel
theorem dX11_whatIs_109 : decode cX11_whatIs 109 = .ok (.aload_n 0, 1) := by decide +kernel
theorem dX11_whatIs_110 : decode cX11_whatIs 110 = .ok (.aload_n 0, 1) := by decide +kernel
theorem dX11_whatIs_111 : decode cX11_whatIs 111 = .ok (.getfield 54, 3) := by decide +kernel
theorem dX11_whatIs_114 : decode cX11_whatIs 114 = .ok (.iload_n 1, 1) := by decide +kernel
theorem dX11_whatIs_115 : decode cX11_whatIs 115 = .ok (.aaload, 1) := by decide +kernel
theorem dX11_whatIs_116 : decode cX11_whatIs 116 = .ok (.iload_n 2, 1) := by decide +kernel
theorem dX11_whatIs_117 : decode cX11_whatIs 117 = .ok (.invokevirtual 231, 3) := by decide +kernel
theorem dX11_whatIs_120 : decode cX11_whatIs 120 = .ok (.ifCond .eq 12, 3) := by decide +kernel
theorem dX11_whatIs_123 : decode cX11_whatIs 123 = .ok (.iload 6, 2) := by decide +kernel
theorem dX11_whatIs_125 : decode cX11_whatIs 125 = .ok (.iconst 1, 1) := by decide +kernel
theorem dX11_whatIs_126 : decode cX11_whatIs 126 = .ok (.iload 7, 2) := by decide +kernel
theorem dX11_whatIs_128 : decode cX11_whatIs 128 = .ok (.ishl, 1) := by decide +kernel
theorem dX11_whatIs_129 : decode cX11_whatIs 129 = .ok (.ior, 1) := by decide +kernel
theorem dX11_whatIs_130 : decode cX11_whatIs 130 = .ok (.istore 6, 2) := by decide +kernel
theorem dX11_whatIs_132 : decode cX11_whatIs 132 = .ok (.iinc 7 1, 3) := by decide +kernel
theorem dX11_whatIs_135 : decode cX11_whatIs 135 = .ok (.goto (-73), 3) := by decide +kernel
theorem dX11_whatIs_138 : decode cX11_whatIs 138 = .ok (.iload 6, 2) := by decide +kernel
theorem dX11_whatIs_140 : decode cX11_whatIs 140 = .ok (.ireturn, 1) := by decide +kernel
theorem dX11_whichPast_0 : decode cX11_whichPast 0 = .ok (.iload_n 1, 1) := by decide +kernel
theorem dX11_whichPast_1 : decode cX11_whichPast 1 = .ok (.invokestatic 146, 3) := by decide +kernel
theorem dX11_whichPast_4 : decode cX11_whichPast 4 = .ok (.ifCond .eq 18, 3) := by decide +kernel
theorem dX11_whichPast_7 : decode cX11_whichPast 7 = .ok (.iload_n 2, 1) := by decide +kernel
theorem dX11_whichPast_8 : decode cX11_whichPast 8 = .ok (.invokestatic 125, 3) := by decide +kernel
theorem dX11_whichPast_11 : decode cX11_whichPast 11 = .ok (.ifCond .eq 11, 3) := by decide +kernel
theorem dX11_whichPast_14 : decode cX11_whichPast 14 = .ok (.iload_n 3, 1) := by decide +kernel
theorem dX11_whichPast_15 : decode cX11_whichPast 15 = .ok (.iconst 2, 1) := by decide +kernel
theorem dX11_whichPast_16 : decode cX11_whichPast 16 = .ok (.invokestatic 102, 3) := by decide +kernel
theorem dX11_whichPast_19 : decode cX11_whichPast 19 = .ok (.ifCond .ne 5, 3) := by decide +kernel
theorem dX11_whichPast_22 : decode cX11_whichPast 22 = .ok (.iconst (-1), 1) := by decide +kernel
theorem dX11_whichPast_23 : decode cX11_whichPast 23 = .ok (.ireturn, 1) := by decide +kernel
theorem dX11_whichPast_24 : decode cX11_whichPast 24 = .ok (.aload_n 0, 1) := by decide +kernel
theorem dX11_whichPast_25 : decode cX11_whichPast 25 = .ok (.iload_n 1, 1) := by decide +kernel
theorem dX11_whichPast_26 : decode cX11_whichPast 26 = .ok (.invokevirtual 69, 3) := by decide +kernel
theorem dX11_whichPast_29 : decode cX11_whichPast 29 = .ok (.istore 4, 2) := by decide +kernel
theorem dX11_whichPast_31 : decode cX11_whichPast 31 = .ok (.iload 4, 2) := by decide +kernel
theorem dX11_whichPast_33 : decode cX11_whichPast 33 = .ok (.ifCond .eq 6, 3) := by decide +kernel
theorem dX11_whichPast_36 : decode cX11_whichPast 36 = .ok (.iload 4, 2) := by decide +kernel
theorem dX11_whichPast_38 : decode cX11_whichPast 38 = .ok (.ireturn, 1) := by decide +kernel
theorem dX11_whichPast_39 : decode cX11_whichPast 39 = .ok (.iconst 0, 1) := by decide +kernel
theorem dX11_whichPast_40 : decode cX11_whichPast 40 = .ok (.istore 5, 2) := by decide +kernel
theorem dX11_whichPast_42 : decode cX11_whichPast 42 = .ok (.bipush (-4), 2) := by decide +kernel
theorem dX11_whichPast_44 : decode cX11_whichPast 44 = .ok (.istore 6, 2) := by decide +kernel
theorem dX11_whichPast_46 : decode cX11_whichPast 46 = .ok (.bipush (-4), 2) := by decide +kernel
theorem dX11_whichPast_48 : decode cX11_whichPast 48 = .ok (.istore 7, 2) := by decide +kernel
theorem dX11_whichPast_50 : decode cX11_whichPast 50 = .ok (.aload_n 0, 1) := by decide +kernel
theorem dX11_whichPast_51 : decode cX11_whichPast 51 = .ok (.getfield 49, 3) := by decide +kernel
theorem dX11_whichPast_54 : decode cX11_whichPast 54 = .ok (.aload_n 0, 1) := by decide +kernel
theorem dX11_whichPast_55 : decode cX11_whichPast 55 = .ok (.getfield 36, 3) := by decide +kernel
theorem dX11_whichPast_58 : decode cX11_whichPast 58 = .ok (.invokevirtual 83, 3) := by decide +kernel
theorem dX11_whichPast_61 : decode cX11_whichPast 61 = .ok (.iconst 0, 1) := by decide +kernel
theorem dX11_whichPast_62 : decode cX11_whichPast 62 = .ok (.istore 8, 2) := by decide +kernel
theorem dX11_whichPast_64 : decode cX11_whichPast 64 = .ok (.iload 8, 2) := by decide +kernel
theorem dX11_whichPast_66 : decode cX11_whichPast 66 = .ok (.sipush 4095, 3) := by decide +kernel
theorem dX11_whichPast_69 : decode cX11_whichPast 69 = .ok (.if_icmp .gt 52, 3) := by decide +kernel
theorem dX11_whichPast_72 : decode cX11_whichPast 72 = .ok (.aload_n 0, 1) := by decide +kernel
theorem dX11_whichPast_73 : decode cX11_whichPast 73 = .ok (.getfield 49, 3) := by decide +kernel
theorem dX11_whichPast_76 : decode cX11_whichPast 76 = .ok (.getfield 128, 3) := by decide +kernel
theorem dX11_whichPast_79 : decode cX11_whichPast 79 = .ok (.iload_n 2, 1) := by decide +kernel
theorem dX11_whichPast_80 : decode cX11_whichPast 80 = .ok (.iload 8, 2) := by decide +kernel
theorem dX11_whichPast_82 : decode cX11_whichPast 82 = .ok (.iastore, 1) := by decide +kernel
theorem dX11_whichPast_83 : decode cX11_whichPast 83 = .ok (.aload_n 0, 1) := by decide +kernel
theorem dX11_whichPast_84 : decode cX11_whichPast 84 = .ok (.aload_n 0, 1) := by decide +kernel
theorem dX11_whichPast_85 : decode cX11_whichPast 85 = .ok (.getfield 54, 3) := by decide +kernel
theorem dX11_whichPast_88 : decode cX11_whichPast 88 = .ok (.iload_n 1, 1) := by decide +kernel
theorem dX11_whichPast_89 : decode cX11_whichPast 89 = .ok (.aaload, 1) := by decide +kernel
theorem dX11_whichPast_90 : decode cX11_whichPast 90 = .ok (.iload_n 2, 1) := by decide +kernel
theorem dX11_whichPast_91 : decode cX11_whichPast 91 = .ok (.invokevirtual 235, 3) := by decide +kernel
theorem dX11_whichPast_94 : decode cX11_whichPast 94 = .ok (.ifCond .eq 21, 3) := by decide +kernel
theorem dX11_whichPast_97 : decode cX11_whichPast 97 = .ok (.iinc 5 1, 3) := by decide +kernel
theorem dX11_whichPast_100 : decode cX11_whichPast 100 = .ok (.iload 8, 2) := by decide +kernel
theorem dX11_whichPast_102 : decode cX11_whichPast 102 = .ok (.istore 7, 2) := by decide +kernel
theorem dX11_whichPast_104 : decode cX11_whichPast 104 = .ok (.iload 6, 2) := by decide +kernel
theorem dX11_whichPast_106 : decode cX11_whichPast 106 = .ok (.bipush (-4), 2) := by decide +kernel
theorem dX11_whichPast_108 : decode cX11_whichPast 108 = .ok (.if_icmp .ne 7, 3) := by decide +kernel
theorem dX11_whichPast_111 : decode cX11_whichPast 111 = .ok (.iload 8, 2) := by decide +kernel
theorem dX11_whichPast_113 : decode cX11_whichPast 113 = .ok (.istore 6, 2) := by decide +kernel
theorem dX11_whichPast_115 : decode cX11_whichPast 115 = .ok (.iinc 8 1, 3) := by decide +kernel
theorem dX11_whichPast_118 : decode cX11_whichPast 118 = .ok (.goto (-54), 3) := by decide +kernel
theorem dX11_whichPast_121 : decode cX11_whichPast 121 = .ok (.iload_n 3, 1) := by decide +kernel
theorem dX11_whichPast_122 : decode cX11_whichPast 122 = .ok (.ifCond .ne 6, 3) := by decide +kernel
theorem dX11_whichPast_125 : decode cX11_whichPast 125 = .ok (.iload 5, 2) := by decide +kernel
theorem dX11_whichPast_127 : decode cX11_whichPast 127 = .ok (.ireturn, 1) := by decide +kernel
theorem dX11_whichPast_128 : decode cX11_whichPast 128 = .ok (.iload_n 3, 1) := by decide +kernel
theorem dX11_whichPast_129 : decode cX11_whichPast 129 = .ok (.iconst 1, 1) := by decide +kernel
theorem dX11_whichPast_130 : decode cX11_whichPast 130 = .ok (.if_icmp .ne 8, 3) := by decide +kernel
theorem dX11_whichPast_133 : decode cX11_whichPast 133 = .ok (.iload 6, 2) := by decide +kernel
theorem dX11_whichPast_135 : decode cX11_whichPast 135 = .ok (.goto 5, 3) := by decide +kernel
theorem dX11_whichPast_138 : decode cX11_whichPast 138 = .ok (.iload 7, 2) := by decide +kernel
theorem dX11_whichPast_140 : decode cX11_whichPast 140 = .ok (.ireturn, 1) := by decide +kernel
theorem dX11_two_0 : decode cX11_two 0 = .ok (.aload_n 0, 1) := by decide +kernel
theorem dX11_two_1 : decode cX11_two 1 = .ok (.getfield 36, 3) := by decide +kernel
theorem dX11_two_4 : decode cX11_two 4 = .ok (.iload_n 1, 1) := by decide +kernel
theorem dX11_two_5 : decode cX11_two 5 = .ok (.invokevirtual 98, 3) := by decide +kernel
theorem dX11_two_8 : decode cX11_two 8 = .ok (.ifCond .eq 39, 3) := by decide +kernel
theorem dX11_two_11 : decode cX11_two 11 = .ok (.aload_n 0, 1) := by decide +kernel
theorem dX11_two_12 : decode cX11_two 12 = .ok (.getfield 36, 3) := by decide +kernel
theorem dX11_two_15 : decode cX11_two 15 = .ok (.iload_n 2, 1) := by decide +kernel
theorem dX11_two_16 : decode cX11_two 16 = .ok (.invokevirtual 98, 3) := by decide +kernel
theorem dX11_two_19 : decode cX11_two 19 = .ok (.ifCond .eq 28, 3) := by decide +kernel
theorem dX11_two_22 : decode cX11_two 22 = .ok (.iload_n 1, 1) := by decide +kernel
theorem dX11_two_23 : decode cX11_two 23 = .ok (.iload_n 2, 1) := by decide +kernel
theorem dX11_two_24 : decode cX11_two 24 = .ok (.if_icmp .eq 23, 3) := by decide +kernel
theorem dX11_two_27 : decode cX11_two 27 = .ok (.iload_n 3, 1) := by decide +kernel
theorem dX11_two_28 : decode cX11_two 28 = .ok (.invokestatic 125, 3) := by decide +kernel
theorem dX11_two_31 : decode cX11_two 31 = .ok (.ifCond .eq 16, 3) := by decide +kernel
theorem dX11_two_34 : decode cX11_two 34 = .ok (.iload 4, 2) := by decide +kernel
theorem dX11_two_36 : decode cX11_two 36 = .ok (.iconst 1, 1) := by decide +kernel
theorem dX11_two_37 : decode cX11_two 37 = .ok (.if_icmp .lt 10, 3) := by decide +kernel
theorem dX11_two_40 : decode cX11_two 40 = .ok (.iload 4, 2) := by decide +kernel
theorem dX11_two_42 : decode cX11_two 42 = .ok (.bipush 30, 2) := by decide +kernel
theorem dX11_two_44 : decode cX11_two 44 = .ok (.if_icmp .le 5, 3) := by decide +kernel
theorem dX11_two_47 : decode cX11_two 47 = .ok (.iconst (-1), 1) := by decide +kernel
theorem dX11_two_48 : decode cX11_two 48 = .ok (.ireturn, 1) := by decide +kernel
theorem dX11_two_49 : decode cX11_two 49 = .ok (.iconst 0, 1) := by decide +kernel
theorem dX11_two_50 : decode cX11_two 50 = .ok (.istore 5, 2) := by decide +kernel
theorem dX11_two_52 : decode cX11_two 52 = .ok (.iload 5, 2) := by decide +kernel
theorem dX11_two_54 : decode cX11_two 54 = .ok (.iconst 4, 1) := by decide +kernel
theorem dX11_two_55 : decode cX11_two 55 = .ok (.if_icmp .ge 111, 3) := by decide +kernel
theorem dX11_two_58 : decode cX11_two 58 = .ok (.iload 5, 2) := by decide +kernel
theorem dX11_two_60 : decode cX11_two 60 = .ok (.iconst 1, 1) := by decide +kernel
theorem dX11_two_61 : decode cX11_two 61 = .ok (.ishr, 1) := by decide +kernel
theorem dX11_two_62 : decode cX11_two 62 = .ok (.istore 6, 2) := by decide +kernel
theorem dX11_two_64 : decode cX11_two 64 = .ok (.iload 5, 2) := by decide +kernel
theorem dX11_two_66 : decode cX11_two 66 = .ok (.iconst 1, 1) := by decide +kernel
theorem dX11_two_67 : decode cX11_two 67 = .ok (.iand, 1) := by decide +kernel
theorem dX11_two_68 : decode cX11_two 68 = .ok (.istore 7, 2) := by decide +kernel
theorem dX11_two_70 : decode cX11_two 70 = .ok (.aload_n 0, 1) := by decide +kernel
theorem dX11_two_71 : decode cX11_two 71 = .ok (.getfield 49, 3) := by decide +kernel
theorem dX11_two_74 : decode cX11_two 74 = .ok (.aload_n 0, 1) := by decide +kernel
theorem dX11_two_75 : decode cX11_two 75 = .ok (.getfield 36, 3) := by decide +kernel
theorem dX11_two_78 : decode cX11_two 78 = .ok (.invokevirtual 83, 3) := by decide +kernel
theorem dX11_two_81 : decode cX11_two 81 = .ok (.iload 6, 2) := by decide +kernel
theorem dX11_two_83 : decode cX11_two 83 = .ok (.iconst 1, 1) := by decide +kernel
theorem dX11_two_84 : decode cX11_two 84 = .ok (.if_icmp .ne 13, 3) := by decide +kernel
theorem dX11_two_87 : decode cX11_two 87 = .ok (.aload_n 0, 1) := by decide +kernel
theorem dX11_two_88 : decode cX11_two 88 = .ok (.getfield 49, 3) := by decide +kernel
theorem dX11_two_91 : decode cX11_two 91 = .ok (.getfield 112, 3) := by decide +kernel
theorem dX11_two_94 : decode cX11_two 94 = .ok (.iload_n 1, 1) := by decide +kernel
theorem dX11_two_95 : decode cX11_two 95 = .ok (.iload_n 3, 1) := by decide +kernel
theorem dX11_two_96 : decode cX11_two 96 = .ok (.iastore, 1) := by decide +kernel
theorem dX11_two_97 : decode cX11_two 97 = .ok (.iload 7, 2) := by decide +kernel
theorem dX11_two_99 : decode cX11_two 99 = .ok (.iconst 1, 1) := by decide +kernel
theorem dX11_two_100 : decode cX11_two 100 = .ok (.if_icmp .ne 13, 3) := by decide +kernel
theorem dX11_two_103 : decode cX11_two 103 = .ok (.aload_n 0, 1) := by decide +kernel
theorem dX11_two_104 : decode cX11_two 104 = .ok (.getfield 49, 3) := by decide +kernel
theorem dX11_two_107 : decode cX11_two 107 = .ok (.getfield 112, 3) := by decide +kernel
theorem dX11_two_110 : decode cX11_two 110 = .ok (.iload_n 2, 1) := by decide +kernel
theorem dX11_two_111 : decode cX11_two 111 = .ok (.iload_n 3, 1) := by decide +kernel
theorem dX11_two_112 : decode cX11_two 112 = .ok (.iastore, 1) := by decide +kernel
theorem dX11_two_113 : decode cX11_two 113 = .ok (.aload_n 0, 1) := by decide +kernel
theorem dX11_two_114 : decode cX11_two 114 = .ok (.getfield 49, 3) := by decide +kernel
theorem dX11_two_117 : decode cX11_two 117 = .ok (.iload 4, 2) := by decide +kernel
theorem dX11_two_119 : decode cX11_two 119 = .ok (.invokevirtual 198, 3) := by decide +kernel
theorem dX11_two_122 : decode cX11_two 122 = .ok (.aload_n 0, 1) := by decide +kernel
theorem dX11_two_123 : decode cX11_two 123 = .ok (.getfield 66, 3) := by decide +kernel
theorem dX11_two_126 : decode cX11_two 126 = .ok (.iload 5, 2) := by decide +kernel
theorem dX11_two_128 : decode cX11_two 128 = .ok (.aload_n 0, 1) := by decide +kernel
theorem dX11_two_129 : decode cX11_two 129 = .ok (.getfield 49, 3) := by decide +kernel
theorem dX11_two_132 : decode cX11_two 132 = .ok (.iload_n 1, 1) := by decide +kernel
theorem dX11_two_133 : decode cX11_two 133 = .ok (.invokevirtual 191, 3) := by decide +kernel
theorem dX11_two_136 : decode cX11_two 136 = .ok (.iload 6, 2) := by decide +kernel
theorem dX11_two_138 : decode cX11_two 138 = .ok (.isub, 1) := by decide +kernel
theorem dX11_two_139 : decode cX11_two 139 = .ok (.iastore, 1) := by decide +kernel
theorem dX11_two_140 : decode cX11_two 140 = .ok (.aload_n 0, 1) := by decide +kernel
theorem dX11_two_141 : decode cX11_two 141 = .ok (.getfield 66, 3) := by decide +kernel
theorem dX11_two_144 : decode cX11_two 144 = .ok (.iconst 4, 1) := by decide +kernel
theorem dX11_two_145 : decode cX11_two 145 = .ok (.iload 5, 2) := by decide +kernel
theorem dX11_two_147 : decode cX11_two 147 = .ok (.iadd, 1) := by decide +kernel
theorem dX11_two_148 : decode cX11_two 148 = .ok (.aload_n 0, 1) := by decide +kernel
theorem dX11_two_149 : decode cX11_two 149 = .ok (.getfield 49, 3) := by decide +kernel
theorem dX11_two_152 : decode cX11_two 152 = .ok (.iload_n 2, 1) := by decide +kernel
theorem dX11_two_153 : decode cX11_two 153 = .ok (.invokevirtual 191, 3) := by decide +kernel
theorem dX11_two_156 : decode cX11_two 156 = .ok (.iload 7, 2) := by decide +kernel
theorem dX11_two_158 : decode cX11_two 158 = .ok (.isub, 1) := by decide +kernel
theorem dX11_two_159 : decode cX11_two 159 = .ok (.iastore, 1) := by decide +kernel
theorem dX11_two_160 : decode cX11_two 160 = .ok (.iinc 5 1, 3) := by decide +kernel
theorem dX11_two_163 : decode cX11_two 163 = .ok (.goto (-111), 3) := by decide +kernel
theorem dX11_two_166 : decode cX11_two 166 = .ok (.iconst 0, 1) := by decide +kernel
theorem dX11_two_167 : decode cX11_two 167 = .ok (.istore 5, 2) := by decide +kernel
theorem dX11_two_169 : decode cX11_two 169 = .ok (.iload 5, 2) := by decide +kernel
theorem dX11_two_171 : decode cX11_two 171 = .ok (.iconst 4, 1) := by decide +kernel
theorem dX11_two_172 : decode cX11_two 172 = .ok (.if_icmp .ge 64, 3) := by decide +kernel
theorem dX11_two_175 : decode cX11_two 175 = .ok (.aload_n 0, 1) := by decide +kernel
theorem dX11_two_176 : decode cX11_two 176 = .ok (.getfield 66, 3) := by decide +kernel
theorem dX11_two_179 : decode cX11_two 179 = .ok (.iload 5, 2) := by decide +kernel
theorem dX11_two_181 : decode cX11_two 181 = .ok (.iaload, 1) := by decide +kernel
theorem dX11_two_182 : decode cX11_two 182 = .ok (.aload_n 0, 1) := by decide +kernel
theorem dX11_two_183 : decode cX11_two 183 = .ok (.getfield 66, 3) := by decide +kernel
theorem dX11_two_186 : decode cX11_two 186 = .ok (.iload 5, 2) := by decide +kernel
theorem dX11_two_188 : decode cX11_two 188 = .ok (.iconst 2, 1) := by decide +kernel
theorem dX11_two_189 : decode cX11_two 189 = .ok (.ixor, 1) := by decide +kernel
theorem dX11_two_190 : decode cX11_two 190 = .ok (.iaload, 1) := by decide +kernel
theorem dX11_two_191 : decode cX11_two 191 = .ok (.if_icmp .lt 39, 3) := by decide +kernel
theorem dX11_two_194 : decode cX11_two 194 = .ok (.aload_n 0, 1) := by decide +kernel
theorem dX11_two_195 : decode cX11_two 195 = .ok (.getfield 66, 3) := by decide +kernel
theorem dX11_two_198 : decode cX11_two 198 = .ok (.iconst 4, 1) := by decide +kernel
theorem dX11_two_199 : decode cX11_two 199 = .ok (.iload 5, 2) := by decide +kernel
theorem dX11_two_201 : decode cX11_two 201 = .ok (.iadd, 1) := by decide +kernel
theorem dX11_two_202 : decode cX11_two 202 = .ok (.iaload, 1) := by decide +kernel
theorem dX11_two_203 : decode cX11_two 203 = .ok (.aload_n 0, 1) := by decide +kernel
theorem dX11_two_204 : decode cX11_two 204 = .ok (.getfield 66, 3) := by decide +kernel
theorem dX11_two_207 : decode cX11_two 207 = .ok (.iconst 4, 1) := by decide +kernel
theorem dX11_two_208 : decode cX11_two 208 = .ok (.iload 5, 2) := by decide +kernel
theorem dX11_two_210 : decode cX11_two 210 = .ok (.iconst 1, 1) := by decide +kernel
theorem dX11_two_211 : decode cX11_two 211 = .ok (.ixor, 1) := by decide +kernel
theorem dX11_two_212 : decode cX11_two 212 = .ok (.iadd, 1) := by decide +kernel
theorem dX11_two_213 : decode cX11_two 213 = .ok (.iaload, 1) := by decide +kernel
theorem dX11_two_214 : decode cX11_two 214 = .ok (.if_icmp .lt 16, 3) := by decide +kernel
theorem dX11_two_217 : decode cX11_two 217 = .ok (.bipush 10, 2) := by decide +kernel
theorem dX11_two_219 : decode cX11_two 219 = .ok (.iload 5, 2) := by decide +kernel
theorem dX11_two_221 : decode cX11_two 221 = .ok (.iconst 1, 1) := by decide +kernel
theorem dX11_two_222 : decode cX11_two 222 = .ok (.ishr, 1) := by decide +kernel
theorem dX11_two_223 : decode cX11_two 223 = .ok (.imul, 1) := by decide +kernel
theorem dX11_two_224 : decode cX11_two 224 = .ok (.iload 5, 2) := by decide +kernel
theorem dX11_two_226 : decode cX11_two 226 = .ok (.iconst 1, 1) := by decide +kernel
theorem dX11_two_227 : decode cX11_two 227 = .ok (.iand, 1) := by decide +kernel
theorem dX11_two_228 : decode cX11_two 228 = .ok (.iadd, 1) := by decide +kernel
theorem dX11_two_229 : decode cX11_two 229 = .ok (.ireturn, 1) := by decide +kernel
theorem dX11_two_230 : decode cX11_two 230 = .ok (.iinc 5 1, 3) := by decide +kernel
theorem dX11_two_233 : decode cX11_two 233 = .ok (.goto (-64), 3) := by decide +kernel
theorem dX11_two_236 : decode cX11_two 236 = .ok (.bipush (-4), 2) := by decide +kernel
theorem dX11_two_238 : decode cX11_two 238 = .ok (.ireturn, 1) := by decide +kernel
theorem dX11_floods_0 : decode cX11_floods 0 = .ok (.aload_n 0, 1) := by decide +kernel
theorem dX11_floods_1 : decode cX11_floods 1 = .ok (.getfield 36, 3) := by decide +kernel
theorem dX11_floods_4 : decode cX11_floods 4 = .ok (.iload_n 1, 1) := by decide +kernel
theorem dX11_floods_5 : decode cX11_floods 5 = .ok (.invokevirtual 98, 3) := by decide +kernel
theorem dX11_floods_8 : decode cX11_floods 8 = .ok (.ifCond .eq 41, 3) := by decide +kernel
theorem dX11_floods_11 : decode cX11_floods 11 = .ok (.iload_n 2, 1) := by decide +kernel
theorem dX11_floods_12 : decode cX11_floods 12 = .ok (.invokestatic 125, 3) := by decide +kernel
theorem dX11_floods_15 : decode cX11_floods 15 = .ok (.ifCond .eq 34, 3) := by decide +kernel
theorem dX11_floods_18 : decode cX11_floods 18 = .ok (.iload_n 3, 1) := by decide +kernel
theorem dX11_floods_19 : decode cX11_floods 19 = .ok (.bipush 7, 2) := by decide +kernel
theorem dX11_floods_21 : decode cX11_floods 21 = .ok (.invokestatic 102, 3) := by decide +kernel
theorem dX11_floods_24 : decode cX11_floods 24 = .ok (.ifCond .eq 25, 3) := by decide +kernel
theorem dX11_floods_27 : decode cX11_floods 27 = .ok (.iload 4, 2) := by decide +kernel
theorem dX11_floods_29 : decode cX11_floods 29 = .ok (.iconst 2, 1) := by decide +kernel
theorem dX11_floods_30 : decode cX11_floods 30 = .ok (.if_icmp .lt 19, 3) := by decide +kernel
theorem dX11_floods_33 : decode cX11_floods 33 = .ok (.iload 4, 2) := by decide +kernel
theorem dX11_floods_35 : decode cX11_floods 35 = .ok (.bipush 20, 2) := by decide +kernel
theorem dX11_floods_37 : decode cX11_floods 37 = .ok (.if_icmp .gt 12, 3) := by decide +kernel
theorem dX11_floods_40 : decode cX11_floods 40 = .ok (.iload 5, 2) := by decide +kernel
theorem dX11_floods_42 : decode cX11_floods 42 = .ok (.iconst 1, 1) := by decide +kernel
theorem dX11_floods_43 : decode cX11_floods 43 = .ok (.invokestatic 102, 3) := by decide +kernel
theorem dX11_floods_46 : decode cX11_floods 46 = .ok (.ifCond .ne 7, 3) := by decide +kernel
theorem dX11_floods_49 : decode cX11_floods 49 = .ok (.ldc2_w 238, 3) := by decide +kernel
theorem dX11_floods_52 : decode cX11_floods 52 = .ok (.lreturn, 1) := by decide +kernel
theorem dX11_floods_53 : decode cX11_floods 53 = .ok (.lconst 1, 1) := by decide +kernel
theorem dX11_floods_54 : decode cX11_floods 54 = .ok (.lstore 6, 2) := by decide +kernel
theorem dX11_floods_56 : decode cX11_floods 56 = .ok (.iconst 0, 1) := by decide +kernel
theorem dX11_floods_57 : decode cX11_floods 57 = .ok (.istore 8, 2) := by decide +kernel
theorem dX11_floods_59 : decode cX11_floods 59 = .ok (.iload 8, 2) := by decide +kernel
theorem dX11_floods_61 : decode cX11_floods 61 = .ok (.iload_n 3, 1) := by decide +kernel
theorem dX11_floods_62 : decode cX11_floods 62 = .ok (.if_icmp .ge 17, 3) := by decide +kernel
theorem dX11_floods_65 : decode cX11_floods 65 = .ok (.lload 6, 2) := by decide +kernel
theorem dX11_floods_67 : decode cX11_floods 67 = .ok (.iload 4, 2) := by decide +kernel
theorem dX11_floods_69 : decode cX11_floods 69 = .ok (.i2l, 1) := by decide +kernel
theorem dX11_floods_70 : decode cX11_floods 70 = .ok (.lmul, 1) := by decide +kernel
theorem dX11_floods_71 : decode cX11_floods 71 = .ok (.lstore 6, 2) := by decide +kernel
theorem dX11_floods_73 : decode cX11_floods 73 = .ok (.iinc 8 1, 3) := by decide +kernel
theorem dX11_floods_76 : decode cX11_floods 76 = .ok (.goto (-17), 3) := by decide +kernel
theorem dX11_floods_79 : decode cX11_floods 79 = .ok (.aload_n 0, 1) := by decide +kernel
theorem dX11_floods_80 : decode cX11_floods 80 = .ok (.getfield 49, 3) := by decide +kernel
theorem dX11_floods_83 : decode cX11_floods 83 = .ok (.aload_n 0, 1) := by decide +kernel
theorem dX11_floods_84 : decode cX11_floods 84 = .ok (.getfield 36, 3) := by decide +kernel
theorem dX11_floods_87 : decode cX11_floods 87 = .ok (.invokevirtual 83, 3) := by decide +kernel
theorem dX11_floods_90 : decode cX11_floods 90 = .ok (.aload_n 0, 1) := by decide +kernel
theorem dX11_floods_91 : decode cX11_floods 91 = .ok (.getfield 45, 3) := by decide +kernel
theorem dX11_floods_94 : decode cX11_floods 94 = .ok (.iconst 0, 1) := by decide +kernel
theorem dX11_floods_95 : decode cX11_floods 95 = .ok (.iload_n 3, 1) := by decide +kernel
theorem dX11_floods_96 : decode cX11_floods 96 = .ok (.iload 4, 2) := by decide +kernel
theorem dX11_floods_98 : decode cX11_floods 98 = .ok (.iload_n 1, 1) := by decide +kernel
theorem dX11_floods_99 : decode cX11_floods 99 = .ok (.iload_n 2, 1) := by decide +kernel
theorem dX11_floods_100 : decode cX11_floods 100 = .ok (.invokestatic 240, 3) := by decide +kernel
theorem dX11_floods_103 : decode cX11_floods 103 = .ok (.lload 6, 2) := by decide +kernel
theorem dX11_floods_105 : decode cX11_floods 105 = .ok (.iload 5, 2) := by decide +kernel
theorem dX11_floods_107 : decode cX11_floods 107 = .ok (.invokestatic 244, 3) := by decide +kernel
theorem dX11_floods_110 : decode cX11_floods 110 = .ok (.lreturn, 1) := by decide +kernel
theorem dX11_share_0 : decode cX11_share 0 = .ok (.aload_n 0, 1) := by decide +kernel
theorem dX11_share_1 : decode cX11_share 1 = .ok (.getfield 36, 3) := by decide +kernel
theorem dX11_share_4 : decode cX11_share 4 = .ok (.iload_n 1, 1) := by decide +kernel
theorem dX11_share_5 : decode cX11_share 5 = .ok (.invokevirtual 98, 3) := by decide +kernel
theorem dX11_share_8 : decode cX11_share 8 = .ok (.ifCond .eq 11, 3) := by decide +kernel
theorem dX11_share_11 : decode cX11_share 11 = .ok (.iload_n 2, 1) := by decide +kernel
theorem dX11_share_12 : decode cX11_share 12 = .ok (.iconst 1, 1) := by decide +kernel
theorem dX11_share_13 : decode cX11_share 13 = .ok (.invokestatic 102, 3) := by decide +kernel
theorem dX11_share_16 : decode cX11_share 16 = .ok (.ifCond .ne 7, 3) := by decide +kernel
theorem dX11_share_19 : decode cX11_share 19 = .ok (.ldc2_w 238, 3) := by decide +kernel
theorem dX11_share_22 : decode cX11_share 22 = .ok (.lreturn, 1) := by decide +kernel
theorem dX11_share_23 : decode cX11_share 23 = .ok (.aload_n 0, 1) := by decide +kernel
theorem dX11_share_24 : decode cX11_share 24 = .ok (.getfield 36, 3) := by decide +kernel
theorem dX11_share_27 : decode cX11_share 27 = .ok (.iload_n 1, 1) := by decide +kernel
theorem dX11_share_28 : decode cX11_share 28 = .ok (.invokevirtual 191, 3) := by decide +kernel
theorem dX11_share_31 : decode cX11_share 31 = .ok (.i2l, 1) := by decide +kernel
theorem dX11_share_32 : decode cX11_share 32 = .ok (.aload_n 0, 1) := by decide +kernel
theorem dX11_share_33 : decode cX11_share 33 = .ok (.getfield 36, 3) := by decide +kernel
theorem dX11_share_36 : decode cX11_share 36 = .ok (.invokevirtual 248, 3) := by decide +kernel
theorem dX11_share_39 : decode cX11_share 39 = .ok (.i2l, 1) := by decide +kernel
theorem dX11_share_40 : decode cX11_share 40 = .ok (.iload_n 2, 1) := by decide +kernel
theorem dX11_share_41 : decode cX11_share 41 = .ok (.invokestatic 244, 3) := by decide +kernel
theorem dX11_share_44 : decode cX11_share 44 = .ok (.lreturn, 1) := by decide +kernel
theorem dX11_forged_0 : decode cX11_forged 0 = .ok (.aload_n 0, 1) := by decide +kernel
theorem dX11_forged_1 : decode cX11_forged 1 = .ok (.iload_n 1, 1) := by decide +kernel
theorem dX11_forged_2 : decode cX11_forged 2 = .ok (.invokevirtual 69, 3) := by decide +kernel
theorem dX11_forged_5 : decode cX11_forged 5 = .ok (.istore_n 2, 1) := by decide +kernel
theorem dX11_forged_6 : decode cX11_forged 6 = .ok (.iload_n 2, 1) := by decide +kernel
theorem dX11_forged_7 : decode cX11_forged 7 = .ok (.ifCond .eq 5, 3) := by decide +kernel
theorem dX11_forged_10 : decode cX11_forged 10 = .ok (.iload_n 2, 1) := by decide +kernel
theorem dX11_forged_11 : decode cX11_forged 11 = .ok (.ireturn, 1) := by decide +kernel
theorem dX11_forged_12 : decode cX11_forged 12 = .ok (.aload_n 0, 1) := by decide +kernel
theorem dX11_forged_13 : decode cX11_forged 13 = .ok (.getfield 54, 3) := by decide +kernel
theorem dX11_forged_16 : decode cX11_forged 16 = .ok (.iload_n 1, 1) := by decide +kernel
theorem dX11_forged_17 : decode cX11_forged 17 = .ok (.aaload, 1) := by decide +kernel
theorem dX11_forged_18 : decode cX11_forged 18 = .ok (.astore_n 3, 1) := by decide +kernel
theorem dX11_forged_19 : decode cX11_forged 19 = .ok (.iconst 0, 1) := by decide +kernel
theorem dX11_forged_20 : decode cX11_forged 20 = .ok (.istore 4, 2) := by decide +kernel
theorem dX11_forged_22 : decode cX11_forged 22 = .ok (.iload 4, 2) := by decide +kernel
theorem dX11_forged_24 : decode cX11_forged 24 = .ok (.aload_n 3, 1) := by decide +kernel
theorem dX11_forged_25 : decode cX11_forged 25 = .ok (.getfield 87, 3) := by decide +kernel
theorem dX11_forged_28 : decode cX11_forged 28 = .ok (.if_icmp .ge 38, 3) := by decide +kernel
theorem dX11_forged_31 : decode cX11_forged 31 = .ok (.iload 4, 2) := by decide +kernel
theorem dX11_forged_33 : decode cX11_forged 33 = .ok (.iconst 5, 1) := by decide +kernel
theorem dX11_forged_34 : decode cX11_forged 34 = .ok (.if_icmp .ge 23, 3) := by decide +kernel
theorem dX11_forged_37 : decode cX11_forged 37 = .ok (.aload_n 3, 1) := by decide +kernel
theorem dX11_forged_38 : decode cX11_forged 38 = .ok (.getfield 251, 3) := by decide +kernel
theorem dX11_forged_41 : decode cX11_forged 41 = .ok (.iload 4, 2) := by decide +kernel
theorem dX11_forged_43 : decode cX11_forged 43 = .ok (.iaload, 1) := by decide +kernel
theorem dX11_forged_44 : decode cX11_forged 44 = .ok (.aload_n 0, 1) := by decide +kernel
theorem dX11_forged_45 : decode cX11_forged 45 = .ok (.getfield 36, 3) := by decide +kernel
theorem dX11_forged_48 : decode cX11_forged 48 = .ok (.getfield 134, 3) := by decide +kernel
theorem dX11_forged_51 : decode cX11_forged 51 = .ok (.iload 4, 2) := by decide +kernel
theorem dX11_forged_53 : decode cX11_forged 53 = .ok (.iaload, 1) := by decide +kernel
theorem dX11_forged_54 : decode cX11_forged 54 = .ok (.if_icmp .eq 6, 3) := by decide +kernel
theorem dX11_forged_57 : decode cX11_forged 57 = .ok (.iload 4, 2) := by decide +kernel
theorem dX11_forged_59 : decode cX11_forged 59 = .ok (.ireturn, 1) := by decide +kernel
theorem dX11_forged_60 : decode cX11_forged 60 = .ok (.iinc 4 1, 3) := by decide +kernel
theorem dX11_forged_63 : decode cX11_forged 63 = .ok (.goto (-41), 3) := by decide +kernel
theorem dX11_forged_66 : decode cX11_forged 66 = .ok (.bipush (-4), 2) := by decide +kernel
theorem dX11_forged_68 : decode cX11_forged 68 = .ok (.ireturn, 1) := by decide +kernel
theorem dX11_judge_0 : decode cX11_judge 0 = .ok (.iload_n 1, 1) := by decide +kernel
theorem dX11_judge_1 : decode cX11_judge 1 = .ok (.invokestatic 146, 3) := by decide +kernel
theorem dX11_judge_4 : decode cX11_judge 4 = .ok (.ifCond .eq 14, 3) := by decide +kernel
theorem dX11_judge_7 : decode cX11_judge 7 = .ok (.aload_n 0, 1) := by decide +kernel
theorem dX11_judge_8 : decode cX11_judge 8 = .ok (.getfield 36, 3) := by decide +kernel
theorem dX11_judge_11 : decode cX11_judge 11 = .ok (.iload_n 2, 1) := by decide +kernel
theorem dX11_judge_12 : decode cX11_judge 12 = .ok (.invokevirtual 98, 3) := by decide +kernel
theorem dX11_judge_15 : decode cX11_judge 15 = .ok (.ifCond .ne 5, 3) := by decide +kernel
theorem dX11_judge_18 : decode cX11_judge 18 = .ok (.iconst (-1), 1) := by decide +kernel
theorem dX11_judge_19 : decode cX11_judge 19 = .ok (.ireturn, 1) := by decide +kernel
theorem dX11_judge_20 : decode cX11_judge 20 = .ok (.aload_n 0, 1) := by decide +kernel
theorem dX11_judge_21 : decode cX11_judge 21 = .ok (.iload_n 1, 1) := by decide +kernel
theorem dX11_judge_22 : decode cX11_judge 22 = .ok (.invokevirtual 69, 3) := by decide +kernel
theorem dX11_judge_25 : decode cX11_judge 25 = .ok (.istore_n 3, 1) := by decide +kernel
theorem dX11_judge_26 : decode cX11_judge 26 = .ok (.iload_n 3, 1) := by decide +kernel
theorem dX11_judge_27 : decode cX11_judge 27 = .ok (.ifCond .eq 5, 3) := by decide +kernel
theorem dX11_judge_30 : decode cX11_judge 30 = .ok (.iload_n 3, 1) := by decide +kernel
theorem dX11_judge_31 : decode cX11_judge 31 = .ok (.ireturn, 1) := by decide +kernel
theorem dX11_judge_32 : decode cX11_judge 32 = .ok (.aload_n 0, 1) := by decide +kernel
theorem dX11_judge_33 : decode cX11_judge 33 = .ok (.getfield 54, 3) := by decide +kernel
theorem dX11_judge_36 : decode cX11_judge 36 = .ok (.iload_n 1, 1) := by decide +kernel
theorem dX11_judge_37 : decode cX11_judge 37 = .ok (.aaload, 1) := by decide +kernel
theorem dX11_judge_38 : decode cX11_judge 38 = .ok (.astore 4, 2) := by decide +kernel
theorem dX11_judge_40 : decode cX11_judge 40 = .ok (.aload_n 0, 1) := by decide +kernel
theorem dX11_judge_41 : decode cX11_judge 41 = .ok (.getfield 49, 3) := by decide +kernel
theorem dX11_judge_44 : decode cX11_judge 44 = .ok (.aload_n 0, 1) := by decide +kernel
theorem dX11_judge_45 : decode cX11_judge 45 = .ok (.getfield 36, 3) := by decide +kernel
theorem dX11_judge_48 : decode cX11_judge 48 = .ok (.invokevirtual 83, 3) := by decide +kernel
theorem dX11_judge_51 : decode cX11_judge 51 = .ok (.iconst 0, 1) := by decide +kernel
theorem dX11_judge_52 : decode cX11_judge 52 = .ok (.istore 5, 2) := by decide +kernel
theorem dX11_judge_54 : decode cX11_judge 54 = .ok (.iload 5, 2) := by decide +kernel
theorem dX11_judge_56 : decode cX11_judge 56 = .ok (.aload 4, 2) := by decide +kernel
theorem dX11_judge_58 : decode cX11_judge 58 = .ok (.getfield 87, 3) := by decide +kernel
theorem dX11_judge_61 : decode cX11_judge 61 = .ok (.if_icmp .ge 41, 3) := by decide +kernel
theorem dX11_judge_64 : decode cX11_judge 64 = .ok (.aload 4, 2) := by decide +kernel
theorem dX11_judge_66 : decode cX11_judge 66 = .ok (.iload 5, 2) := by decide +kernel
theorem dX11_judge_68 : decode cX11_judge 68 = .ok (.aload_n 0, 1) := by decide +kernel
theorem dX11_judge_69 : decode cX11_judge 69 = .ok (.getfield 49, 3) := by decide +kernel
theorem dX11_judge_72 : decode cX11_judge 72 = .ok (.iload_n 2, 1) := by decide +kernel
theorem dX11_judge_73 : decode cX11_judge 73 = .ok (.invokevirtual 115, 3) := by decide +kernel
theorem dX11_judge_76 : decode cX11_judge 76 = .ok (.invokestatic 182, 3) := by decide +kernel
theorem dX11_judge_79 : decode cX11_judge 79 = .ok (.invokevirtual 254, 3) := by decide +kernel
theorem dX11_judge_82 : decode cX11_judge 82 = .ok (.ifCond .ne 6, 3) := by decide +kernel
theorem dX11_judge_85 : decode cX11_judge 85 = .ok (.iload 5, 2) := by decide +kernel
theorem dX11_judge_87 : decode cX11_judge 87 = .ok (.ireturn, 1) := by decide +kernel
theorem dX11_judge_88 : decode cX11_judge 88 = .ok (.aload_n 0, 1) := by decide +kernel
theorem dX11_judge_89 : decode cX11_judge 89 = .ok (.getfield 49, 3) := by decide +kernel
theorem dX11_judge_92 : decode cX11_judge 92 = .ok (.invokevirtual 194, 3) := by decide +kernel
theorem dX11_judge_95 : decode cX11_judge 95 = .ok (.pop, 1) := by decide +kernel
theorem dX11_judge_96 : decode cX11_judge 96 = .ok (.iinc 5 1, 3) := by decide +kernel
theorem dX11_judge_99 : decode cX11_judge 99 = .ok (.goto (-45), 3) := by decide +kernel
theorem dX11_judge_102 : decode cX11_judge 102 = .ok (.bipush (-4), 2) := by decide +kernel
theorem dX11_judge_104 : decode cX11_judge 104 = .ok (.ireturn, 1) := by decide +kernel
theorem dX11_years_0 : decode cX11_years 0 = .ok (.iload_n 1, 1) := by decide +kernel
theorem dX11_years_1 : decode cX11_years 1 = .ok (.iconst 1, 1) := by decide +kernel
theorem dX11_years_2 : decode cX11_years 2 = .ok (.if_icmp .lt 17, 3) := by decide +kernel
theorem dX11_years_5 : decode cX11_years 5 = .ok (.iload_n 1, 1) := by decide +kernel
theorem dX11_years_6 : decode cX11_years 6 = .ok (.bipush 20, 2) := by decide +kernel
theorem dX11_years_8 : decode cX11_years 8 = .ok (.if_icmp .gt 11, 3) := by decide +kernel
theorem dX11_years_11 : decode cX11_years 11 = .ok (.iload_n 3, 1) := by decide +kernel
theorem dX11_years_12 : decode cX11_years 12 = .ok (.iconst 1, 1) := by decide +kernel
theorem dX11_years_13 : decode cX11_years 13 = .ok (.invokestatic 102, 3) := by decide +kernel
theorem dX11_years_16 : decode cX11_years 16 = .ok (.ifCond .ne 5, 3) := by decide +kernel
theorem dX11_years_19 : decode cX11_years 19 = .ok (.iconst (-1), 1) := by decide +kernel
theorem dX11_years_20 : decode cX11_years 20 = .ok (.ireturn, 1) := by decide +kernel
theorem dX11_years_21 : decode cX11_years 21 = .ok (.iload_n 2, 1) := by decide +kernel
theorem dX11_years_22 : decode cX11_years 22 = .ok (.istore 4, 2) := by decide +kernel
theorem dX11_years_24 : decode cX11_years 24 = .ok (.iconst 0, 1) := by decide +kernel
theorem dX11_years_25 : decode cX11_years 25 = .ok (.istore 5, 2) := by decide +kernel
theorem dX11_years_27 : decode cX11_years 27 = .ok (.iconst 0, 1) := by decide +kernel
theorem dX11_years_28 : decode cX11_years 28 = .ok (.istore 6, 2) := by decide +kernel
theorem dX11_years_30 : decode cX11_years 30 = .ok (.iconst 0, 1) := by decide +kernel
theorem dX11_years_31 : decode cX11_years 31 = .ok (.istore 7, 2) := by decide +kernel
theorem dX11_years_33 : decode cX11_years 33 = .ok (.iload 7, 2) := by decide +kernel
theorem dX11_years_35 : decode cX11_years 35 = .ok (.iload_n 1, 1) := by decide +kernel
theorem dX11_years_36 : decode cX11_years 36 = .ok (.if_icmp .ge 50, 3) := by decide +kernel
theorem dX11_years_39 : decode cX11_years 39 = .ok (.aload_n 0, 1) := by decide +kernel
theorem dX11_years_40 : decode cX11_years 40 = .ok (.iload 4, 2) := by decide +kernel
theorem dX11_years_42 : decode cX11_years 42 = .ok (.invokevirtual 257, 3) := by decide +kernel
theorem dX11_years_45 : decode cX11_years 45 = .ok (.istore 4, 2) := by decide +kernel
theorem dX11_years_47 : decode cX11_years 47 = .ok (.aload_n 0, 1) := by decide +kernel
theorem dX11_years_48 : decode cX11_years 48 = .ok (.getfield 49, 3) := by decide +kernel
theorem dX11_years_51 : decode cX11_years 51 = .ok (.bipush 8, 2) := by decide +kernel
theorem dX11_years_53 : decode cX11_years 53 = .ok (.invokevirtual 198, 3) := by decide +kernel
theorem dX11_years_56 : decode cX11_years 56 = .ok (.iload 5, 2) := by decide +kernel
theorem dX11_years_58 : decode cX11_years 58 = .ok (.aload_n 0, 1) := by decide +kernel
theorem dX11_years_59 : decode cX11_years 59 = .ok (.getfield 49, 3) := by decide +kernel
theorem dX11_years_62 : decode cX11_years 62 = .ok (.invokevirtual 178, 3) := by decide +kernel
theorem dX11_years_65 : decode cX11_years 65 = .ok (.invokestatic 182, 3) := by decide +kernel
theorem dX11_years_68 : decode cX11_years 68 = .ok (.iadd, 1) := by decide +kernel
theorem dX11_years_69 : decode cX11_years 69 = .ok (.istore 5, 2) := by decide +kernel
theorem dX11_years_71 : decode cX11_years 71 = .ok (.iload 6, 2) := by decide +kernel
theorem dX11_years_73 : decode cX11_years 73 = .ok (.aload_n 0, 1) := by decide +kernel
theorem dX11_years_74 : decode cX11_years 74 = .ok (.invokevirtual 260, 3) := by decide +kernel
theorem dX11_years_77 : decode cX11_years 77 = .ok (.iadd, 1) := by decide +kernel
theorem dX11_years_78 : decode cX11_years 78 = .ok (.istore 6, 2) := by decide +kernel
theorem dX11_years_80 : decode cX11_years 80 = .ok (.iinc 7 1, 3) := by decide +kernel
theorem dX11_years_83 : decode cX11_years 83 = .ok (.goto (-50), 3) := by decide +kernel
theorem dX11_years_86 : decode cX11_years 86 = .ok (.iload_n 3, 1) := by decide +kernel
theorem dX11_years_87 : decode cX11_years 87 = .ok (.ifCond .ne 8, 3) := by decide +kernel
theorem dX11_years_90 : decode cX11_years 90 = .ok (.iload 5, 2) := by decide +kernel
theorem dX11_years_92 : decode cX11_years 92 = .ok (.goto 5, 3) := by decide +kernel
theorem dX11_years_95 : decode cX11_years 95 = .ok (.iload 6, 2) := by decide +kernel
theorem dX11_years_97 : decode cX11_years 97 = .ok (.ireturn, 1) := by decide +kernel
theorem dX11_image_0 : decode cX11_image 0 = .ok (.aload_n 0, 1) := by decide +kernel
theorem dX11_image_1 : decode cX11_image 1 = .ok (.getfield 42, 3) := by decide +kernel
theorem dX11_image_4 : decode cX11_image 4 = .ok (.aload_n 0, 1) := by decide +kernel
theorem dX11_image_5 : decode cX11_image 5 = .ok (.getfield 36, 3) := by decide +kernel
theorem dX11_image_8 : decode cX11_image 8 = .ok (.invokevirtual 83, 3) := by decide +kernel
theorem dX11_image_11 : decode cX11_image 11 = .ok (.aload_n 0, 1) := by decide +kernel
theorem dX11_image_12 : decode cX11_image 12 = .ok (.iconst 1, 1) := by decide +kernel
theorem dX11_image_13 : decode cX11_image 13 = .ok (.putfield 263, 3) := by decide +kernel
theorem dX11_image_16 : decode cX11_image 16 = .ok (.aload_n 0, 1) := by decide +kernel
theorem dX11_image_17 : decode cX11_image 17 = .ok (.getfield 36, 3) := by decide +kernel
theorem dX11_image_20 : decode cX11_image 20 = .ok (.getfield 118, 3) := by decide +kernel
theorem dX11_image_23 : decode cX11_image 23 = .ok (.ireturn, 1) := by decide +kernel
theorem dX11_restore_0 : decode cX11_restore 0 = .ok (.aload_n 0, 1) := by decide +kernel
theorem dX11_restore_1 : decode cX11_restore 1 = .ok (.getfield 263, 3) := by decide +kernel
theorem dX11_restore_4 : decode cX11_restore 4 = .ok (.ifCond .ne 6, 3) := by decide +kernel
theorem dX11_restore_7 : decode cX11_restore 7 = .ok (.bipush (-3), 2) := by decide +kernel
theorem dX11_restore_9 : decode cX11_restore 9 = .ok (.ireturn, 1) := by decide +kernel
theorem dX11_restore_10 : decode cX11_restore 10 = .ok (.aload_n 0, 1) := by decide +kernel
theorem dX11_restore_11 : decode cX11_restore 11 = .ok (.getfield 36, 3) := by decide +kernel
theorem dX11_restore_14 : decode cX11_restore 14 = .ok (.aload_n 0, 1) := by decide +kernel
theorem dX11_restore_15 : decode cX11_restore 15 = .ok (.getfield 42, 3) := by decide +kernel
theorem dX11_restore_18 : decode cX11_restore 18 = .ok (.invokevirtual 83, 3) := by decide +kernel
theorem dX11_restore_21 : decode cX11_restore 21 = .ok (.aload_n 0, 1) := by decide +kernel
theorem dX11_restore_22 : decode cX11_restore 22 = .ok (.getfield 36, 3) := by decide +kernel
theorem dX11_restore_25 : decode cX11_restore 25 = .ok (.getfield 118, 3) := by decide +kernel
theorem dX11_restore_28 : decode cX11_restore 28 = .ok (.ireturn, 1) := by decide +kernel
theorem dX11_count_0 : decode cX11_count 0 = .ok (.iload_n 1, 1) := by decide +kernel
theorem dX11_count_1 : decode cX11_count 1 = .ok (.tableswitch 75 0 4 #[35, 43, 51, 59, 67], 35) := by decide +kernel
theorem dX11_count_36 : decode cX11_count 36 = .ok (.aload_n 0, 1) := by decide +kernel
theorem dX11_count_37 : decode cX11_count 37 = .ok (.getfield 36, 3) := by decide +kernel
theorem dX11_count_40 : decode cX11_count 40 = .ok (.getfield 163, 3) := by decide +kernel
theorem dX11_count_43 : decode cX11_count 43 = .ok (.ireturn, 1) := by decide +kernel
theorem dX11_count_44 : decode cX11_count 44 = .ok (.aload_n 0, 1) := by decide +kernel
theorem dX11_count_45 : decode cX11_count 45 = .ok (.getfield 36, 3) := by decide +kernel
theorem dX11_count_48 : decode cX11_count 48 = .ok (.getfield 118, 3) := by decide +kernel
theorem dX11_count_51 : decode cX11_count 51 = .ok (.ireturn, 1) := by decide +kernel
theorem dX11_count_52 : decode cX11_count 52 = .ok (.aload_n 0, 1) := by decide +kernel
theorem dX11_count_53 : decode cX11_count 53 = .ok (.getfield 36, 3) := by decide +kernel
theorem dX11_count_56 : decode cX11_count 56 = .ok (.invokevirtual 178, 3) := by decide +kernel
theorem dX11_count_59 : decode cX11_count 59 = .ok (.ireturn, 1) := by decide +kernel
theorem dX11_count_60 : decode cX11_count 60 = .ok (.aload_n 0, 1) := by decide +kernel
theorem dX11_count_61 : decode cX11_count 61 = .ok (.getfield 36, 3) := by decide +kernel
theorem dX11_count_64 : decode cX11_count 64 = .ok (.invokevirtual 248, 3) := by decide +kernel
theorem dX11_count_67 : decode cX11_count 67 = .ok (.ireturn, 1) := by decide +kernel
theorem dX11_count_68 : decode cX11_count 68 = .ok (.aload_n 0, 1) := by decide +kernel
theorem dX11_count_69 : decode cX11_count 69 = .ok (.getfield 36, 3) := by decide +kernel
theorem dX11_count_72 : decode cX11_count 72 = .ok (.invokevirtual 267, 3) := by decide +kernel
theorem dX11_count_75 : decode cX11_count 75 = .ok (.ireturn, 1) := by decide +kernel
theorem dX11_count_76 : decode cX11_count 76 = .ok (.iconst (-1), 1) := by decide +kernel
theorem dX11_count_77 : decode cX11_count 77 = .ok (.ireturn, 1) := by decide +kernel
theorem dX11_keep_0 : decode cX11_keep 0 = .ok (.iload_n 1, 1) := by decide +kernel
theorem dX11_keep_1 : decode cX11_keep 1 = .ok (.invokestatic 146, 3) := by decide +kernel
theorem dX11_keep_4 : decode cX11_keep 4 = .ok (.ifCond .eq 11, 3) := by decide +kernel
theorem dX11_keep_7 : decode cX11_keep 7 = .ok (.iload_n 2, 1) := by decide +kernel
theorem dX11_keep_8 : decode cX11_keep 8 = .ok (.iconst 1, 1) := by decide +kernel
theorem dX11_keep_9 : decode cX11_keep 9 = .ok (.invokestatic 102, 3) := by decide +kernel
theorem dX11_keep_12 : decode cX11_keep 12 = .ok (.ifCond .ne 5, 3) := by decide +kernel
theorem dX11_keep_15 : decode cX11_keep 15 = .ok (.iconst (-1), 1) := by decide +kernel
theorem dX11_keep_16 : decode cX11_keep 16 = .ok (.ireturn, 1) := by decide +kernel
theorem dX11_keep_17 : decode cX11_keep 17 = .ok (.iload_n 2, 1) := by decide +kernel
theorem dX11_keep_18 : decode cX11_keep 18 = .ok (.ifCond .ne 15, 3) := by decide +kernel
theorem dX11_keep_21 : decode cX11_keep 21 = .ok (.aload_n 0, 1) := by decide +kernel
theorem dX11_keep_22 : decode cX11_keep 22 = .ok (.getfield 54, 3) := by decide +kernel
theorem dX11_keep_25 : decode cX11_keep 25 = .ok (.iload_n 1, 1) := by decide +kernel
theorem dX11_keep_26 : decode cX11_keep 26 = .ok (.aaload, 1) := by decide +kernel
theorem dX11_keep_27 : decode cX11_keep 27 = .ok (.iconst 0, 1) := by decide +kernel
theorem dX11_keep_28 : decode cX11_keep 28 = .ok (.putfield 270, 3) := by decide +kernel
theorem dX11_keep_31 : decode cX11_keep 31 = .ok (.iconst 0, 1) := by decide +kernel
theorem dX11_keep_32 : decode cX11_keep 32 = .ok (.ireturn, 1) := by decide +kernel
theorem dX11_keep_33 : decode cX11_keep 33 = .ok (.iload_n 3, 1) := by decide +kernel
theorem dX11_keep_34 : decode cX11_keep 34 = .ok (.bipush 7, 2) := by decide +kernel
theorem dX11_keep_36 : decode cX11_keep 36 = .ok (.invokestatic 102, 3) := by decide +kernel
theorem dX11_keep_39 : decode cX11_keep 39 = .ok (.ifCond .eq 13, 3) := by decide +kernel
theorem dX11_keep_42 : decode cX11_keep 42 = .ok (.iload 4, 2) := by decide +kernel
theorem dX11_keep_44 : decode cX11_keep 44 = .ok (.bipush 9, 2) := by decide +kernel
theorem dX11_keep_46 : decode cX11_keep 46 = .ok (.invokestatic 102, 3) := by decide +kernel
theorem dX11_keep_49 : decode cX11_keep 49 = .ok (.ifCond .ne 5, 3) := by decide +kernel
theorem dX11_keep_52 : decode cX11_keep 52 = .ok (.iconst (-1), 1) := by decide +kernel
theorem dX11_keep_53 : decode cX11_keep 53 = .ok (.ireturn, 1) := by decide +kernel
theorem dX11_keep_54 : decode cX11_keep 54 = .ok (.aload_n 0, 1) := by decide +kernel
theorem dX11_keep_55 : decode cX11_keep 55 = .ok (.getfield 54, 3) := by decide +kernel
theorem dX11_keep_58 : decode cX11_keep 58 = .ok (.iload_n 1, 1) := by decide +kernel
theorem dX11_keep_59 : decode cX11_keep 59 = .ok (.aaload, 1) := by decide +kernel
theorem dX11_keep_60 : decode cX11_keep 60 = .ok (.iload_n 3, 1) := by decide +kernel
theorem dX11_keep_61 : decode cX11_keep 61 = .ok (.iload 4, 2) := by decide +kernel
theorem dX11_keep_63 : decode cX11_keep 63 = .ok (.invokevirtual 273, 3) := by decide +kernel
theorem dX11_keep_66 : decode cX11_keep 66 = .ok (.iconst 0, 1) := by decide +kernel
theorem dX11_keep_67 : decode cX11_keep 67 = .ok (.ireturn, 1) := by decide +kernel
theorem dX11_row_0 : decode cX11_row 0 = .ok (.iload_n 1, 1) := by decide +kernel
theorem dX11_row_1 : decode cX11_row 1 = .ok (.invokestatic 146, 3) := by decide +kernel
theorem dX11_row_4 : decode cX11_row 4 = .ok (.ifCond .eq 17, 3) := by decide +kernel
theorem dX11_row_7 : decode cX11_row 7 = .ok (.iload_n 2, 1) := by decide +kernel
theorem dX11_row_8 : decode cX11_row 8 = .ok (.iconst 2, 1) := by decide +kernel
theorem dX11_row_9 : decode cX11_row 9 = .ok (.invokestatic 102, 3) := by decide +kernel
theorem dX11_row_12 : decode cX11_row 12 = .ok (.ifCond .eq 9, 3) := by decide +kernel
theorem dX11_row_15 : decode cX11_row 15 = .ok (.iload_n 3, 1) := by decide +kernel
theorem dX11_row_16 : decode cX11_row 16 = .ok (.bipush 100, 2) := by decide +kernel
theorem dX11_row_18 : decode cX11_row 18 = .ok (.if_icmp .le 5, 3) := by decide +kernel
theorem dX11_row_21 : decode cX11_row 21 = .ok (.iconst (-1), 1) := by decide +kernel
theorem dX11_row_22 : decode cX11_row 22 = .ok (.ireturn, 1) := by decide +kernel
theorem dX11_row_23 : decode cX11_row 23 = .ok (.iload_n 3, 1) := by decide +kernel
theorem dX11_row_24 : decode cX11_row 24 = .ok (.ifCond .ge 6, 3) := by decide +kernel
theorem dX11_row_27 : decode cX11_row 27 = .ok (.bipush (-14), 2) := by decide +kernel
theorem dX11_row_29 : decode cX11_row 29 = .ok (.ireturn, 1) := by decide +kernel
theorem dX11_row_30 : decode cX11_row 30 = .ok (.aload_n 0, 1) := by decide +kernel
theorem dX11_row_31 : decode cX11_row 31 = .ok (.getfield 54, 3) := by decide +kernel
theorem dX11_row_34 : decode cX11_row 34 = .ok (.iload_n 1, 1) := by decide +kernel
theorem dX11_row_35 : decode cX11_row 35 = .ok (.aaload, 1) := by decide +kernel
theorem dX11_row_36 : decode cX11_row 36 = .ok (.iload_n 2, 1) := by decide +kernel
theorem dX11_row_37 : decode cX11_row 37 = .ok (.iload_n 3, 1) := by decide +kernel
theorem dX11_row_38 : decode cX11_row 38 = .ok (.invokevirtual 277, 3) := by decide +kernel
theorem dX11_row_41 : decode cX11_row 41 = .ok (.iconst 0, 1) := by decide +kernel
theorem dX11_row_42 : decode cX11_row 42 = .ok (.ireturn, 1) := by decide +kernel
theorem dX11_put_0 : decode cX11_put 0 = .ok (.aload_n 0, 1) := by decide +kernel
theorem dX11_put_1 : decode cX11_put 1 = .ok (.iload_n 1, 1) := by decide +kernel
theorem dX11_put_2 : decode cX11_put 2 = .ok (.invokevirtual 69, 3) := by decide +kernel
theorem dX11_put_5 : decode cX11_put 5 = .ok (.istore 4, 2) := by decide +kernel
theorem dX11_put_7 : decode cX11_put 7 = .ok (.iload 4, 2) := by decide +kernel
theorem dX11_put_9 : decode cX11_put 9 = .ok (.ifCond .eq 6, 3) := by decide +kernel
theorem dX11_put_12 : decode cX11_put 12 = .ok (.iload 4, 2) := by decide +kernel
theorem dX11_put_14 : decode cX11_put 14 = .ok (.ireturn, 1) := by decide +kernel
theorem dX11_put_15 : decode cX11_put 15 = .ok (.aload_n 0, 1) := by decide +kernel
theorem dX11_put_16 : decode cX11_put 16 = .ok (.getfield 54, 3) := by decide +kernel
theorem dX11_put_19 : decode cX11_put 19 = .ok (.iload_n 1, 1) := by decide +kernel
theorem dX11_put_20 : decode cX11_put 20 = .ok (.aaload, 1) := by decide +kernel
theorem dX11_put_21 : decode cX11_put 21 = .ok (.astore 5, 2) := by decide +kernel
theorem dX11_put_23 : decode cX11_put 23 = .ok (.aload 5, 2) := by decide +kernel
theorem dX11_put_25 : decode cX11_put 25 = .ok (.iload_n 2, 1) := by decide +kernel
theorem dX11_put_26 : decode cX11_put 26 = .ok (.iconst 1, 1) := by decide +kernel
theorem dX11_put_27 : decode cX11_put 27 = .ok (.invokevirtual 280, 3) := by decide +kernel
theorem dX11_put_30 : decode cX11_put 30 = .ok (.ifCond .ne 6, 3) := by decide +kernel
theorem dX11_put_33 : decode cX11_put 33 = .ok (.bipush (-13), 2) := by decide +kernel
theorem dX11_put_35 : decode cX11_put 35 = .ok (.ireturn, 1) := by decide +kernel
theorem dX11_put_36 : decode cX11_put 36 = .ok (.aload 5, 2) := by decide +kernel
theorem dX11_put_38 : decode cX11_put 38 = .ok (.getfield 251, 3) := by decide +kernel
theorem dX11_put_41 : decode cX11_put 41 = .ok (.iload_n 2, 1) := by decide +kernel
theorem dX11_put_42 : decode cX11_put 42 = .ok (.aload 5, 2) := by decide +kernel
theorem dX11_put_44 : decode cX11_put 44 = .ok (.iload_n 3, 1) := by decide +kernel
theorem dX11_put_45 : decode cX11_put 45 = .ok (.invokevirtual 283, 3) := by decide +kernel
theorem dX11_put_48 : decode cX11_put 48 = .ok (.iastore, 1) := by decide +kernel
theorem dX11_put_49 : decode cX11_put 49 = .ok (.iconst 0, 1) := by decide +kernel
theorem dX11_put_50 : decode cX11_put 50 = .ok (.ireturn, 1) := by decide +kernel
theorem dX11_element_0 : decode cX11_element 0 = .ok (.iload_n 1, 1) := by decide +kernel
theorem dX11_element_1 : decode cX11_element 1 = .ok (.invokestatic 146, 3) := by decide +kernel
theorem dX11_element_4 : decode cX11_element 4 = .ok (.ifCond .ne 14, 3) := by decide +kernel
theorem dX11_element_7 : decode cX11_element 7 = .ok (.new 286, 3) := by decide +kernel
theorem dX11_element_10 : decode cX11_element 10 = .ok (.dup, 1) := by decide +kernel
theorem dX11_element_11 : decode cX11_element 11 = .ok (.ldc_w 288, 3) := by decide +kernel
theorem dX11_element_14 : decode cX11_element 14 = .ok (.invokespecial 290, 3) := by decide +kernel
theorem dX11_element_17 : decode cX11_element 17 = .ok (.athrow, 1) := by decide +kernel
theorem dX11_element_18 : decode cX11_element 18 = .ok (.aload_n 0, 1) := by decide +kernel
theorem dX11_element_19 : decode cX11_element 19 = .ok (.getfield 54, 3) := by decide +kernel
theorem dX11_element_22 : decode cX11_element 22 = .ok (.iload_n 1, 1) := by decide +kernel
theorem dX11_element_23 : decode cX11_element 23 = .ok (.aaload, 1) := by decide +kernel
theorem dX11_element_24 : decode cX11_element 24 = .ok (.astore_n 3, 1) := by decide +kernel
theorem dX11_element_25 : decode cX11_element 25 = .ok (.aload_n 3, 1) := by decide +kernel
theorem dX11_element_26 : decode cX11_element 26 = .ok (.getfield 270, 3) := by decide +kernel
theorem dX11_element_29 : decode cX11_element 29 = .ok (.iconst 2, 1) := by decide +kernel
theorem dX11_element_30 : decode cX11_element 30 = .ok (.if_icmp .eq 14, 3) := by decide +kernel
theorem dX11_element_33 : decode cX11_element 33 = .ok (.new 293, 3) := by decide +kernel
theorem dX11_element_36 : decode cX11_element 36 = .ok (.dup, 1) := by decide +kernel
theorem dX11_element_37 : decode cX11_element 37 = .ok (.ldc_w 295, 3) := by decide +kernel
theorem dX11_element_40 : decode cX11_element 40 = .ok (.invokespecial 297, 3) := by decide +kernel
theorem dX11_element_43 : decode cX11_element 43 = .ok (.athrow, 1) := by decide +kernel
theorem dX11_element_44 : decode cX11_element 44 = .ok (.aload_n 3, 1) := by decide +kernel
theorem dX11_element_45 : decode cX11_element 45 = .ok (.iload_n 2, 1) := by decide +kernel
theorem dX11_element_46 : decode cX11_element 46 = .ok (.iconst 1, 1) := by decide +kernel
theorem dX11_element_47 : decode cX11_element 47 = .ok (.invokevirtual 280, 3) := by decide +kernel
theorem dX11_element_50 : decode cX11_element 50 = .ok (.ifCond .ne 14, 3) := by decide +kernel
theorem dX11_element_53 : decode cX11_element 53 = .ok (.new 293, 3) := by decide +kernel
theorem dX11_element_56 : decode cX11_element 56 = .ok (.dup, 1) := by decide +kernel
theorem dX11_element_57 : decode cX11_element 57 = .ok (.ldc_w 298, 3) := by decide +kernel
theorem dX11_element_60 : decode cX11_element 60 = .ok (.invokespecial 297, 3) := by decide +kernel
theorem dX11_element_63 : decode cX11_element 63 = .ok (.athrow, 1) := by decide +kernel
theorem dX11_element_64 : decode cX11_element 64 = .ok (.aload_n 3, 1) := by decide +kernel
theorem dX11_element_65 : decode cX11_element 65 = .ok (.getfield 251, 3) := by decide +kernel
theorem dX11_element_68 : decode cX11_element 68 = .ok (.iload_n 2, 1) := by decide +kernel
theorem dX11_element_69 : decode cX11_element 69 = .ok (.iaload, 1) := by decide +kernel
theorem dX11_element_70 : decode cX11_element 70 = .ok (.i2l, 1) := by decide +kernel
theorem dX11_element_71 : decode cX11_element 71 = .ok (.lreturn, 1) := by decide +kernel
theorem dX11_copy_0 : decode cX11_copy 0 = .ok (.iload_n 1, 1) := by decide +kernel
theorem dX11_copy_1 : decode cX11_copy 1 = .ok (.invokestatic 146, 3) := by decide +kernel
theorem dX11_copy_4 : decode cX11_copy 4 = .ok (.ifCond .eq 10, 3) := by decide +kernel
theorem dX11_copy_7 : decode cX11_copy 7 = .ok (.iload_n 3, 1) := by decide +kernel
theorem dX11_copy_8 : decode cX11_copy 8 = .ok (.invokestatic 146, 3) := by decide +kernel
theorem dX11_copy_11 : decode cX11_copy 11 = .ok (.ifCond .ne 5, 3) := by decide +kernel
theorem dX11_copy_14 : decode cX11_copy 14 = .ok (.iconst (-1), 1) := by decide +kernel
theorem dX11_copy_15 : decode cX11_copy 15 = .ok (.ireturn, 1) := by decide +kernel
theorem dX11_copy_16 : decode cX11_copy 16 = .ok (.aload_n 0, 1) := by decide +kernel
theorem dX11_copy_17 : decode cX11_copy 17 = .ok (.getfield 54, 3) := by decide +kernel
theorem dX11_copy_20 : decode cX11_copy 20 = .ok (.iload_n 1, 1) := by decide +kernel
theorem dX11_copy_21 : decode cX11_copy 21 = .ok (.aaload, 1) := by decide +kernel
theorem dX11_copy_22 : decode cX11_copy 22 = .ok (.astore 6, 2) := by decide +kernel
theorem dX11_copy_24 : decode cX11_copy 24 = .ok (.aload_n 0, 1) := by decide +kernel
theorem dX11_copy_25 : decode cX11_copy 25 = .ok (.getfield 54, 3) := by decide +kernel
theorem dX11_copy_28 : decode cX11_copy 28 = .ok (.iload_n 3, 1) := by decide +kernel
theorem dX11_copy_29 : decode cX11_copy 29 = .ok (.aaload, 1) := by decide +kernel
theorem dX11_copy_30 : decode cX11_copy 30 = .ok (.astore 7, 2) := by decide +kernel
theorem dX11_copy_32 : decode cX11_copy 32 = .ok (.aload 6, 2) := by decide +kernel
theorem dX11_copy_34 : decode cX11_copy 34 = .ok (.getfield 270, 3) := by decide +kernel
theorem dX11_copy_37 : decode cX11_copy 37 = .ok (.ifCond .eq 11, 3) := by decide +kernel
theorem dX11_copy_40 : decode cX11_copy 40 = .ok (.aload 7, 2) := by decide +kernel
theorem dX11_copy_42 : decode cX11_copy 42 = .ok (.getfield 270, 3) := by decide +kernel
theorem dX11_copy_45 : decode cX11_copy 45 = .ok (.ifCond .ne 6, 3) := by decide +kernel
theorem dX11_copy_48 : decode cX11_copy 48 = .ok (.bipush (-11), 2) := by decide +kernel
theorem dX11_copy_50 : decode cX11_copy 50 = .ok (.ireturn, 1) := by decide +kernel
theorem dX11_copy_51 : decode cX11_copy 51 = .ok (.aload 6, 2) := by decide +kernel
theorem dX11_copy_53 : decode cX11_copy 53 = .ok (.getfield 270, 3) := by decide +kernel
theorem dX11_copy_56 : decode cX11_copy 56 = .ok (.iconst 2, 1) := by decide +kernel
theorem dX11_copy_57 : decode cX11_copy 57 = .ok (.if_icmp .ne 25, 3) := by decide +kernel
theorem dX11_copy_60 : decode cX11_copy 60 = .ok (.aload 7, 2) := by decide +kernel
theorem dX11_copy_62 : decode cX11_copy 62 = .ok (.getfield 270, 3) := by decide +kernel
theorem dX11_copy_65 : decode cX11_copy 65 = .ok (.iconst 2, 1) := by decide +kernel
theorem dX11_copy_66 : decode cX11_copy 66 = .ok (.if_icmp .ne 16, 3) := by decide +kernel
theorem dX11_copy_69 : decode cX11_copy 69 = .ok (.aload 6, 2) := by decide +kernel
theorem dX11_copy_71 : decode cX11_copy 71 = .ok (.getfield 73, 3) := by decide +kernel
theorem dX11_copy_74 : decode cX11_copy 74 = .ok (.aload 7, 2) := by decide +kernel
theorem dX11_copy_76 : decode cX11_copy 76 = .ok (.getfield 73, 3) := by decide +kernel
theorem dX11_copy_79 : decode cX11_copy 79 = .ok (.if_icmp .eq 6, 3) := by decide +kernel
theorem dX11_copy_82 : decode cX11_copy 82 = .ok (.bipush (-12), 2) := by decide +kernel
theorem dX11_copy_84 : decode cX11_copy 84 = .ok (.ireturn, 1) := by decide +kernel
theorem dX11_copy_85 : decode cX11_copy 85 = .ok (.aload 6, 2) := by decide +kernel
theorem dX11_copy_87 : decode cX11_copy 87 = .ok (.iload_n 2, 1) := by decide +kernel
theorem dX11_copy_88 : decode cX11_copy 88 = .ok (.iload 5, 2) := by decide +kernel
theorem dX11_copy_90 : decode cX11_copy 90 = .ok (.invokevirtual 280, 3) := by decide +kernel
theorem dX11_copy_93 : decode cX11_copy 93 = .ok (.ifCond .eq 15, 3) := by decide +kernel
theorem dX11_copy_96 : decode cX11_copy 96 = .ok (.aload 7, 2) := by decide +kernel
theorem dX11_copy_98 : decode cX11_copy 98 = .ok (.iload 4, 2) := by decide +kernel
theorem dX11_copy_100 : decode cX11_copy 100 = .ok (.iload 5, 2) := by decide +kernel
theorem dX11_copy_102 : decode cX11_copy 102 = .ok (.invokevirtual 280, 3) := by decide +kernel
theorem dX11_copy_105 : decode cX11_copy 105 = .ok (.ifCond .ne 6, 3) := by decide +kernel
theorem dX11_copy_108 : decode cX11_copy 108 = .ok (.bipush (-13), 2) := by decide +kernel
theorem dX11_copy_110 : decode cX11_copy 110 = .ok (.ireturn, 1) := by decide +kernel
theorem dX11_copy_111 : decode cX11_copy 111 = .ok (.aload 6, 2) := by decide +kernel
theorem dX11_copy_113 : decode cX11_copy 113 = .ok (.getfield 251, 3) := by decide +kernel
theorem dX11_copy_116 : decode cX11_copy 116 = .ok (.iload_n 2, 1) := by decide +kernel
theorem dX11_copy_117 : decode cX11_copy 117 = .ok (.aload 7, 2) := by decide +kernel
theorem dX11_copy_119 : decode cX11_copy 119 = .ok (.getfield 251, 3) := by decide +kernel
theorem dX11_copy_122 : decode cX11_copy 122 = .ok (.iload 4, 2) := by decide +kernel
theorem dX11_copy_124 : decode cX11_copy 124 = .ok (.iload 5, 2) := by decide +kernel
theorem dX11_copy_126 : decode cX11_copy 126 = .ok (.invokestatic 300, 3) := by decide +kernel
theorem dX11_copy_129 : decode cX11_copy 129 = .ok (.iload 5, 2) := by decide +kernel
theorem dX11_copy_131 : decode cX11_copy 131 = .ok (.ireturn, 1) := by decide +kernel
theorem dX11_cost_0 : decode cX11_cost 0 = .ok (.aload_n 0, 1) := by decide +kernel
theorem dX11_cost_1 : decode cX11_cost 1 = .ok (.iload_n 1, 1) := by decide +kernel
theorem dX11_cost_2 : decode cX11_cost 2 = .ok (.invokevirtual 152, 3) := by decide +kernel
theorem dX11_cost_5 : decode cX11_cost 5 = .ok (.istore_n 2, 1) := by decide +kernel
theorem dX11_cost_6 : decode cX11_cost 6 = .ok (.iload_n 2, 1) := by decide +kernel
theorem dX11_cost_7 : decode cX11_cost 7 = .ok (.ifCond .eq 5, 3) := by decide +kernel
theorem dX11_cost_10 : decode cX11_cost 10 = .ok (.iload_n 2, 1) := by decide +kernel
theorem dX11_cost_11 : decode cX11_cost 11 = .ok (.ireturn, 1) := by decide +kernel
theorem dX11_cost_12 : decode cX11_cost 12 = .ok (.aload_n 0, 1) := by decide +kernel
theorem dX11_cost_13 : decode cX11_cost 13 = .ok (.getfield 54, 3) := by decide +kernel
theorem dX11_cost_16 : decode cX11_cost 16 = .ok (.iload_n 1, 1) := by decide +kernel
theorem dX11_cost_17 : decode cX11_cost 17 = .ok (.aaload, 1) := by decide +kernel
theorem dX11_cost_18 : decode cX11_cost 18 = .ok (.astore_n 3, 1) := by decide +kernel
theorem dX11_cost_19 : decode cX11_cost 19 = .ok (.aload_n 0, 1) := by decide +kernel
theorem dX11_cost_20 : decode cX11_cost 20 = .ok (.getfield 36, 3) := by decide +kernel
theorem dX11_cost_23 : decode cX11_cost 23 = .ok (.getfield 306, 3) := by decide +kernel
theorem dX11_cost_26 : decode cX11_cost 26 = .ok (.aload_n 3, 1) := by decide +kernel
theorem dX11_cost_27 : decode cX11_cost 27 = .ok (.getfield 155, 3) := by decide +kernel
theorem dX11_cost_30 : decode cX11_cost 30 = .ok (.aaload, 1) := by decide +kernel
theorem dX11_cost_31 : decode cX11_cost 31 = .ok (.aload_n 3, 1) := by decide +kernel
theorem dX11_cost_32 : decode cX11_cost 32 = .ok (.getfield 157, 3) := by decide +kernel
theorem dX11_cost_35 : decode cX11_cost 35 = .ok (.invokevirtual 310, 3) := by decide +kernel
theorem dX11_cost_38 : decode cX11_cost 38 = .ok (.ireturn, 1) := by decide +kernel
theorem dX11_toss_0 : decode cX11_toss 0 = .ok (.aload_n 0, 1) := by decide +kernel
theorem dX11_toss_1 : decode cX11_toss 1 = .ok (.iload_n 1, 1) := by decide +kernel
theorem dX11_toss_2 : decode cX11_toss 2 = .ok (.invokevirtual 152, 3) := by decide +kernel
theorem dX11_toss_5 : decode cX11_toss 5 = .ok (.istore_n 2, 1) := by decide +kernel
theorem dX11_toss_6 : decode cX11_toss 6 = .ok (.iload_n 2, 1) := by decide +kernel
theorem dX11_toss_7 : decode cX11_toss 7 = .ok (.ifCond .eq 5, 3) := by decide +kernel
theorem dX11_toss_10 : decode cX11_toss 10 = .ok (.iload_n 2, 1) := by decide +kernel
theorem dX11_toss_11 : decode cX11_toss 11 = .ok (.ireturn, 1) := by decide +kernel
theorem dX11_toss_12 : decode cX11_toss 12 = .ok (.aload_n 0, 1) := by decide +kernel
theorem dX11_toss_13 : decode cX11_toss 13 = .ok (.getfield 54, 3) := by decide +kernel
theorem dX11_toss_16 : decode cX11_toss 16 = .ok (.iload_n 1, 1) := by decide +kernel
theorem dX11_toss_17 : decode cX11_toss 17 = .ok (.aaload, 1) := by decide +kernel
theorem dX11_toss_18 : decode cX11_toss 18 = .ok (.astore_n 3, 1) := by decide +kernel
theorem dX11_toss_19 : decode cX11_toss 19 = .ok (.aload_n 0, 1) := by decide +kernel
theorem dX11_toss_20 : decode cX11_toss 20 = .ok (.getfield 36, 3) := by decide +kernel
theorem dX11_toss_23 : decode cX11_toss 23 = .ok (.getfield 306, 3) := by decide +kernel
theorem dX11_toss_26 : decode cX11_toss 26 = .ok (.aload_n 3, 1) := by decide +kernel
theorem dX11_toss_27 : decode cX11_toss 27 = .ok (.getfield 155, 3) := by decide +kernel
theorem dX11_toss_30 : decode cX11_toss 30 = .ok (.aaload, 1) := by decide +kernel
theorem dX11_toss_31 : decode cX11_toss 31 = .ok (.aload_n 3, 1) := by decide +kernel
theorem dX11_toss_32 : decode cX11_toss 32 = .ok (.getfield 157, 3) := by decide +kernel
theorem dX11_toss_35 : decode cX11_toss 35 = .ok (.invokevirtual 313, 3) := by decide +kernel
theorem dX11_toss_38 : decode cX11_toss 38 = .ok (.goto 33, 3) := by decide +kernel
theorem dX11_toss_41 : decode cX11_toss 41 = .ok (.astore 4, 2) := by decide +kernel
theorem dX11_toss_43 : decode cX11_toss 43 = .ok (.aload_n 3, 1) := by decide +kernel
theorem dX11_toss_44 : decode cX11_toss 44 = .ok (.getfield 157, 3) := by decide +kernel
theorem dX11_toss_47 : decode cX11_toss 47 = .ok (.ireturn, 1) := by decide +kernel
theorem dX11_toss_48 : decode cX11_toss 48 = .ok (.astore 4, 2) := by decide +kernel
theorem dX11_toss_50 : decode cX11_toss 50 = .ok (.bipush 100, 2) := by decide +kernel
theorem dX11_toss_52 : decode cX11_toss 52 = .ok (.aload_n 3, 1) := by decide +kernel
theorem dX11_toss_53 : decode cX11_toss 53 = .ok (.getfield 157, 3) := by decide +kernel
theorem dX11_toss_56 : decode cX11_toss 56 = .ok (.iadd, 1) := by decide +kernel
theorem dX11_toss_57 : decode cX11_toss 57 = .ok (.ireturn, 1) := by decide +kernel
theorem dX11_toss_58 : decode cX11_toss 58 = .ok (.astore 4, 2) := by decide +kernel
theorem dX11_toss_60 : decode cX11_toss 60 = .ok (.sipush 200, 3) := by decide +kernel
theorem dX11_toss_63 : decode cX11_toss 63 = .ok (.iconst 2, 1) := by decide +kernel
theorem dX11_toss_64 : decode cX11_toss 64 = .ok (.aload_n 3, 1) := by decide +kernel
theorem dX11_toss_65 : decode cX11_toss 65 = .ok (.getfield 157, 3) := by decide +kernel
theorem dX11_toss_68 : decode cX11_toss 68 = .ok (.imul, 1) := by decide +kernel
theorem dX11_toss_69 : decode cX11_toss 69 = .ok (.iadd, 1) := by decide +kernel
theorem dX11_toss_70 : decode cX11_toss 70 = .ok (.ireturn, 1) := by decide +kernel
theorem dX11_toss_71 : decode cX11_toss 71 = .ok (.bipush (-15), 2) := by decide +kernel
theorem dX11_toss_73 : decode cX11_toss 73 = .ok (.ireturn, 1) := by decide +kernel
theorem dX11_within_0 : decode cX11_within 0 = .ok (.iload_n 0, 1) := by decide +kernel
theorem dX11_within_1 : decode cX11_within 1 = .ok (.ifCond .lt 12, 3) := by decide +kernel
theorem dX11_within_4 : decode cX11_within 4 = .ok (.iload_n 0, 1) := by decide +kernel
theorem dX11_within_5 : decode cX11_within 5 = .ok (.iload_n 1, 1) := by decide +kernel
theorem dX11_within_6 : decode cX11_within 6 = .ok (.if_icmp .gt 7, 3) := by decide +kernel
theorem dX11_within_9 : decode cX11_within 9 = .ok (.iconst 1, 1) := by decide +kernel
theorem dX11_within_10 : decode cX11_within 10 = .ok (.goto 4, 3) := by decide +kernel
theorem dX11_within_13 : decode cX11_within 13 = .ok (.iconst 0, 1) := by decide +kernel
theorem dX11_within_14 : decode cX11_within 14 = .ok (.ireturn, 1) := by decide +kernel
theorem dX11_isThing_0 : decode cX11_isThing 0 = .ok (.iload_n 0, 1) := by decide +kernel
theorem dX11_isThing_1 : decode cX11_isThing 1 = .ok (.ifCond .lt 12, 3) := by decide +kernel
theorem dX11_isThing_4 : decode cX11_isThing 4 = .ok (.iload_n 0, 1) := by decide +kernel
theorem dX11_isThing_5 : decode cX11_isThing 5 = .ok (.iconst 5, 1) := by decide +kernel
theorem dX11_isThing_6 : decode cX11_isThing 6 = .ok (.if_icmp .ge 7, 3) := by decide +kernel
theorem dX11_isThing_9 : decode cX11_isThing 9 = .ok (.iconst 1, 1) := by decide +kernel
theorem dX11_isThing_10 : decode cX11_isThing 10 = .ok (.goto 4, 3) := by decide +kernel
theorem dX11_isThing_13 : decode cX11_isThing 13 = .ok (.iconst 0, 1) := by decide +kernel
theorem dX11_isThing_14 : decode cX11_isThing 14 = .ok (.ireturn, 1) := by decide +kernel
theorem dX11_isCare_0 : decode cX11_isCare 0 = .ok (.iload_n 0, 1) := by decide +kernel
theorem dX11_isCare_1 : decode cX11_isCare 1 = .ok (.invokestatic 125, 3) := by decide +kernel
theorem dX11_isCare_4 : decode cX11_isCare 4 = .ok (.ifCond .ne 9, 3) := by decide +kernel
theorem dX11_isCare_7 : decode cX11_isCare 7 = .ok (.iload_n 0, 1) := by decide +kernel
theorem dX11_isCare_8 : decode cX11_isCare 8 = .ok (.bipush 9, 2) := by decide +kernel
theorem dX11_isCare_10 : decode cX11_isCare 10 = .ok (.if_icmp .ne 7, 3) := by decide +kernel
theorem dX11_isCare_13 : decode cX11_isCare 13 = .ok (.iconst 1, 1) := by decide +kernel
theorem dX11_isCare_14 : decode cX11_isCare 14 = .ok (.goto 4, 3) := by decide +kernel
theorem dX11_isCare_17 : decode cX11_isCare 17 = .ok (.iconst 0, 1) := by decide +kernel
theorem dX11_isCare_18 : decode cX11_isCare 18 = .ok (.ireturn, 1) := by decide +kernel
theorem dX11_isShelf_0 : decode cX11_isShelf 0 = .ok (.iload_n 0, 1) := by decide +kernel
theorem dX11_isShelf_1 : decode cX11_isShelf 1 = .ok (.ifCond .lt 13, 3) := by decide +kernel
theorem dX11_isShelf_4 : decode cX11_isShelf 4 = .ok (.iload_n 0, 1) := by decide +kernel
theorem dX11_isShelf_5 : decode cX11_isShelf 5 = .ok (.bipush 8, 2) := by decide +kernel
theorem dX11_isShelf_7 : decode cX11_isShelf 7 = .ok (.if_icmp .ge 7, 3) := by decide +kernel
theorem dX11_isShelf_10 : decode cX11_isShelf 10 = .ok (.iconst 1, 1) := by decide +kernel
theorem dX11_isShelf_11 : decode cX11_isShelf 11 = .ok (.goto 4, 3) := by decide +kernel
theorem dX11_isShelf_14 : decode cX11_isShelf 14 = .ok (.iconst 0, 1) := by decide +kernel
theorem dX11_isShelf_15 : decode cX11_isShelf 15 = .ok (.ireturn, 1) := by decide +kernel
theorem dX11_noneIfNobody_0 : decode cX11_noneIfNobody 0 = .ok (.iload_n 0, 1) := by decide +kernel
theorem dX11_noneIfNobody_1 : decode cX11_noneIfNobody 1 = .ok (.bipush 9, 2) := by decide +kernel
theorem dX11_noneIfNobody_3 : decode cX11_noneIfNobody 3 = .ok (.if_icmp .ne 8, 3) := by decide +kernel
theorem dX11_noneIfNobody_6 : decode cX11_noneIfNobody 6 = .ok (.bipush (-4), 2) := by decide +kernel
theorem dX11_noneIfNobody_8 : decode cX11_noneIfNobody 8 = .ok (.goto 4, 3) := by decide +kernel
theorem dX11_noneIfNobody_11 : decode cX11_noneIfNobody 11 = .ok (.iload_n 0, 1) := by decide +kernel
theorem dX11_noneIfNobody_12 : decode cX11_noneIfNobody 12 = .ok (.ireturn, 1) := by decide +kernel
theorem dX11_rowRefusal_0 : decode cX11_rowRefusal 0 = .ok (.aload_n 0, 1) := by decide +kernel
theorem dX11_rowRefusal_1 : decode cX11_rowRefusal 1 = .ok (.iload_n 1, 1) := by decide +kernel
theorem dX11_rowRefusal_2 : decode cX11_rowRefusal 2 = .ok (.iconst 2, 1) := by decide +kernel
theorem dX11_rowRefusal_3 : decode cX11_rowRefusal 3 = .ok (.invokevirtual 318, 3) := by decide +kernel
theorem dX11_rowRefusal_6 : decode cX11_rowRefusal 6 = .ok (.ireturn, 1) := by decide +kernel
theorem dX11_oneRefusal_0 : decode cX11_oneRefusal 0 = .ok (.aload_n 0, 1) := by decide +kernel
theorem dX11_oneRefusal_1 : decode cX11_oneRefusal 1 = .ok (.iload_n 1, 1) := by decide +kernel
theorem dX11_oneRefusal_2 : decode cX11_oneRefusal 2 = .ok (.iconst 1, 1) := by decide +kernel
theorem dX11_oneRefusal_3 : decode cX11_oneRefusal 3 = .ok (.invokevirtual 318, 3) := by decide +kernel
theorem dX11_oneRefusal_6 : decode cX11_oneRefusal 6 = .ok (.ireturn, 1) := by decide +kernel
theorem dX11_holdRefusal_0 : decode cX11_holdRefusal 0 = .ok (.iload_n 1, 1) := by decide +kernel
theorem dX11_holdRefusal_1 : decode cX11_holdRefusal 1 = .ok (.invokestatic 146, 3) := by decide +kernel
theorem dX11_holdRefusal_4 : decode cX11_holdRefusal 4 = .ok (.ifCond .ne 5, 3) := by decide +kernel
theorem dX11_holdRefusal_7 : decode cX11_holdRefusal 7 = .ok (.iconst (-1), 1) := by decide +kernel
theorem dX11_holdRefusal_8 : decode cX11_holdRefusal 8 = .ok (.ireturn, 1) := by decide +kernel
theorem dX11_holdRefusal_9 : decode cX11_holdRefusal 9 = .ok (.aload_n 0, 1) := by decide +kernel
theorem dX11_holdRefusal_10 : decode cX11_holdRefusal 10 = .ok (.getfield 54, 3) := by decide +kernel
theorem dX11_holdRefusal_13 : decode cX11_holdRefusal 13 = .ok (.iload_n 1, 1) := by decide +kernel
theorem dX11_holdRefusal_14 : decode cX11_holdRefusal 14 = .ok (.aaload, 1) := by decide +kernel
theorem dX11_holdRefusal_15 : decode cX11_holdRefusal 15 = .ok (.getfield 270, 3) := by decide +kernel
theorem dX11_holdRefusal_18 : decode cX11_holdRefusal 18 = .ok (.istore_n 3, 1) := by decide +kernel
theorem dX11_holdRefusal_19 : decode cX11_holdRefusal 19 = .ok (.iload_n 3, 1) := by decide +kernel
theorem dX11_holdRefusal_20 : decode cX11_holdRefusal 20 = .ok (.ifCond .ne 6, 3) := by decide +kernel
theorem dX11_holdRefusal_23 : decode cX11_holdRefusal 23 = .ok (.bipush (-11), 2) := by decide +kernel
theorem dX11_holdRefusal_25 : decode cX11_holdRefusal 25 = .ok (.ireturn, 1) := by decide +kernel
theorem dX11_holdRefusal_26 : decode cX11_holdRefusal 26 = .ok (.iload_n 3, 1) := by decide +kernel
theorem dX11_holdRefusal_27 : decode cX11_holdRefusal 27 = .ok (.iload_n 2, 1) := by decide +kernel
theorem dX11_holdRefusal_28 : decode cX11_holdRefusal 28 = .ok (.if_icmp .ne 7, 3) := by decide +kernel
theorem dX11_holdRefusal_31 : decode cX11_holdRefusal 31 = .ok (.iconst 0, 1) := by decide +kernel
theorem dX11_holdRefusal_32 : decode cX11_holdRefusal 32 = .ok (.goto 5, 3) := by decide +kernel
theorem dX11_holdRefusal_35 : decode cX11_holdRefusal 35 = .ok (.bipush (-12), 2) := by decide +kernel
theorem dX11_holdRefusal_37 : decode cX11_holdRefusal 37 = .ok (.ireturn, 1) := by decide +kernel
theorem dX11_thinkOn_0 : decode cX11_thinkOn 0 = .ok (.aload_n 0, 1) := by decide +kernel
theorem dX11_thinkOn_1 : decode cX11_thinkOn 1 = .ok (.getfield 49, 3) := by decide +kernel
theorem dX11_thinkOn_4 : decode cX11_thinkOn 4 = .ok (.aload_n 0, 1) := by decide +kernel
theorem dX11_thinkOn_5 : decode cX11_thinkOn 5 = .ok (.getfield 36, 3) := by decide +kernel
theorem dX11_thinkOn_8 : decode cX11_thinkOn 8 = .ok (.invokevirtual 83, 3) := by decide +kernel
theorem dX11_thinkOn_11 : decode cX11_thinkOn 11 = .ok (.aload_n 0, 1) := by decide +kernel
theorem dX11_thinkOn_12 : decode cX11_thinkOn 12 = .ok (.getfield 49, 3) := by decide +kernel
theorem dX11_thinkOn_15 : decode cX11_thinkOn 15 = .ok (.iload_n 1, 1) := by decide +kernel
theorem dX11_thinkOn_16 : decode cX11_thinkOn 16 = .ok (.invokevirtual 198, 3) := by decide +kernel
theorem dX11_thinkOn_19 : decode cX11_thinkOn 19 = .ok (.return_, 1) := by decide +kernel
theorem dX11_noteStories_0 : decode cX11_noteStories 0 = .ok (.iconst 0, 1) := by decide +kernel
theorem dX11_noteStories_1 : decode cX11_noteStories 1 = .ok (.istore_n 1, 1) := by decide +kernel
theorem dX11_noteStories_2 : decode cX11_noteStories 2 = .ok (.iload_n 1, 1) := by decide +kernel
theorem dX11_noteStories_3 : decode cX11_noteStories 3 = .ok (.aload_n 0, 1) := by decide +kernel
theorem dX11_noteStories_4 : decode cX11_noteStories 4 = .ok (.getfield 36, 3) := by decide +kernel
theorem dX11_noteStories_7 : decode cX11_noteStories 7 = .ok (.getfield 163, 3) := by decide +kernel
theorem dX11_noteStories_10 : decode cX11_noteStories 10 = .ok (.if_icmp .ge 41, 3) := by decide +kernel
theorem dX11_noteStories_13 : decode cX11_noteStories 13 = .ok (.iconst 0, 1) := by decide +kernel
theorem dX11_noteStories_14 : decode cX11_noteStories 14 = .ok (.istore_n 2, 1) := by decide +kernel
theorem dX11_noteStories_15 : decode cX11_noteStories 15 = .ok (.iload_n 2, 1) := by decide +kernel
theorem dX11_noteStories_16 : decode cX11_noteStories 16 = .ok (.iconst 5, 1) := by decide +kernel
theorem dX11_noteStories_17 : decode cX11_noteStories 17 = .ok (.if_icmp .ge 28, 3) := by decide +kernel
theorem dX11_noteStories_20 : decode cX11_noteStories 20 = .ok (.aload_n 0, 1) := by decide +kernel
theorem dX11_noteStories_21 : decode cX11_noteStories 21 = .ok (.getfield 63, 3) := by decide +kernel
theorem dX11_noteStories_24 : decode cX11_noteStories 24 = .ok (.iload_n 1, 1) := by decide +kernel
theorem dX11_noteStories_25 : decode cX11_noteStories 25 = .ok (.iconst 5, 1) := by decide +kernel
theorem dX11_noteStories_26 : decode cX11_noteStories 26 = .ok (.imul, 1) := by decide +kernel
theorem dX11_noteStories_27 : decode cX11_noteStories 27 = .ok (.iload_n 2, 1) := by decide +kernel
theorem dX11_noteStories_28 : decode cX11_noteStories 28 = .ok (.iadd, 1) := by decide +kernel
theorem dX11_noteStories_29 : decode cX11_noteStories 29 = .ok (.aload_n 0, 1) := by decide +kernel
theorem dX11_noteStories_30 : decode cX11_noteStories 30 = .ok (.getfield 36, 3) := by decide +kernel
theorem dX11_noteStories_33 : decode cX11_noteStories 33 = .ok (.iload_n 1, 1) := by decide +kernel
theorem dX11_noteStories_34 : decode cX11_noteStories 34 = .ok (.iload_n 2, 1) := by decide +kernel
theorem dX11_noteStories_35 : decode cX11_noteStories 35 = .ok (.invokevirtual 143, 3) := by decide +kernel
theorem dX11_noteStories_38 : decode cX11_noteStories 38 = .ok (.iastore, 1) := by decide +kernel
theorem dX11_noteStories_39 : decode cX11_noteStories 39 = .ok (.iinc 2 1, 3) := by decide +kernel
theorem dX11_noteStories_42 : decode cX11_noteStories 42 = .ok (.goto (-27), 3) := by decide +kernel
theorem dX11_noteStories_45 : decode cX11_noteStories 45 = .ok (.iinc 1 1, 3) := by decide +kernel
theorem dX11_noteStories_48 : decode cX11_noteStories 48 = .ok (.goto (-46), 3) := by decide +kernel
theorem dX11_noteStories_51 : decode cX11_noteStories 51 = .ok (.return_, 1) := by decide +kernel
theorem dX11_weighCrowds_0 : decode cX11_weighCrowds 0 = .ok (.iconst 1, 1) := by decide +kernel
theorem dX11_weighCrowds_1 : decode cX11_weighCrowds 1 = .ok (.aload_n 0, 1) := by decide +kernel
theorem dX11_weighCrowds_2 : decode cX11_weighCrowds 2 = .ok (.getfield 36, 3) := by decide +kernel
theorem dX11_weighCrowds_5 : decode cX11_weighCrowds 5 = .ok (.getfield 163, 3) := by decide +kernel
theorem dX11_weighCrowds_8 : decode cX11_weighCrowds 8 = .ok (.ishl, 1) := by decide +kernel
theorem dX11_weighCrowds_9 : decode cX11_weighCrowds 9 = .ok (.istore_n 1, 1) := by decide +kernel
theorem dX11_weighCrowds_10 : decode cX11_weighCrowds 10 = .ok (.iconst 0, 1) := by decide +kernel
theorem dX11_weighCrowds_11 : decode cX11_weighCrowds 11 = .ok (.istore_n 2, 1) := by decide +kernel
theorem dX11_weighCrowds_12 : decode cX11_weighCrowds 12 = .ok (.iload_n 2, 1) := by decide +kernel
theorem dX11_weighCrowds_13 : decode cX11_weighCrowds 13 = .ok (.iload_n 1, 1) := by decide +kernel
theorem dX11_weighCrowds_14 : decode cX11_weighCrowds 14 = .ok (.if_icmp .ge 20, 3) := by decide +kernel
theorem dX11_weighCrowds_17 : decode cX11_weighCrowds 17 = .ok (.aload_n 0, 1) := by decide +kernel
theorem dX11_weighCrowds_18 : decode cX11_weighCrowds 18 = .ok (.getfield 59, 3) := by decide +kernel
theorem dX11_weighCrowds_21 : decode cX11_weighCrowds 21 = .ok (.sipush 640, 3) := by decide +kernel
theorem dX11_weighCrowds_24 : decode cX11_weighCrowds 24 = .ok (.iload_n 2, 1) := by decide +kernel
theorem dX11_weighCrowds_25 : decode cX11_weighCrowds 25 = .ok (.iadd, 1) := by decide +kernel
theorem dX11_weighCrowds_26 : decode cX11_weighCrowds 26 = .ok (.iconst 0, 1) := by decide +kernel
theorem dX11_weighCrowds_27 : decode cX11_weighCrowds 27 = .ok (.iastore, 1) := by decide +kernel
theorem dX11_weighCrowds_28 : decode cX11_weighCrowds 28 = .ok (.iinc 2 1, 3) := by decide +kernel
theorem dX11_weighCrowds_31 : decode cX11_weighCrowds 31 = .ok (.goto (-19), 3) := by decide +kernel
theorem dX11_weighCrowds_34 : decode cX11_weighCrowds 34 = .ok (.iconst 4, 1) := by decide +kernel
theorem dX11_weighCrowds_35 : decode cX11_weighCrowds 35 = .ok (.istore_n 2, 1) := by decide +kernel
theorem dX11_weighCrowds_36 : decode cX11_weighCrowds 36 = .ok (.iload_n 2, 1) := by decide +kernel
theorem dX11_weighCrowds_37 : decode cX11_weighCrowds 37 = .ok (.ifCond .lt 97, 3) := by decide +kernel
theorem dX11_weighCrowds_40 : decode cX11_weighCrowds 40 = .ok (.iconst 0, 1) := by decide +kernel
theorem dX11_weighCrowds_41 : decode cX11_weighCrowds 41 = .ok (.istore_n 3, 1) := by decide +kernel
theorem dX11_weighCrowds_42 : decode cX11_weighCrowds 42 = .ok (.iload_n 3, 1) := by decide +kernel
theorem dX11_weighCrowds_43 : decode cX11_weighCrowds 43 = .ok (.iload_n 1, 1) := by decide +kernel
theorem dX11_weighCrowds_44 : decode cX11_weighCrowds 44 = .ok (.if_icmp .ge 84, 3) := by decide +kernel
theorem dX11_weighCrowds_47 : decode cX11_weighCrowds 47 = .ok (.aload_n 0, 1) := by decide +kernel
theorem dX11_weighCrowds_48 : decode cX11_weighCrowds 48 = .ok (.getfield 59, 3) := by decide +kernel
theorem dX11_weighCrowds_51 : decode cX11_weighCrowds 51 = .ok (.iload_n 2, 1) := by decide +kernel
theorem dX11_weighCrowds_52 : decode cX11_weighCrowds 52 = .ok (.iconst 1, 1) := by decide +kernel
theorem dX11_weighCrowds_53 : decode cX11_weighCrowds 53 = .ok (.iadd, 1) := by decide +kernel
theorem dX11_weighCrowds_54 : decode cX11_weighCrowds 54 = .ok (.sipush 128, 3) := by decide +kernel
theorem dX11_weighCrowds_57 : decode cX11_weighCrowds 57 = .ok (.imul, 1) := by decide +kernel
theorem dX11_weighCrowds_58 : decode cX11_weighCrowds 58 = .ok (.iload_n 3, 1) := by decide +kernel
theorem dX11_weighCrowds_59 : decode cX11_weighCrowds 59 = .ok (.iadd, 1) := by decide +kernel
theorem dX11_weighCrowds_60 : decode cX11_weighCrowds 60 = .ok (.iaload, 1) := by decide +kernel
theorem dX11_weighCrowds_61 : decode cX11_weighCrowds 61 = .ok (.istore 4, 2) := by decide +kernel
theorem dX11_weighCrowds_63 : decode cX11_weighCrowds 63 = .ok (.iconst 0, 1) := by decide +kernel
theorem dX11_weighCrowds_64 : decode cX11_weighCrowds 64 = .ok (.istore 5, 2) := by decide +kernel
theorem dX11_weighCrowds_66 : decode cX11_weighCrowds 66 = .ok (.iload 5, 2) := by decide +kernel
theorem dX11_weighCrowds_68 : decode cX11_weighCrowds 68 = .ok (.aload_n 0, 1) := by decide +kernel
theorem dX11_weighCrowds_69 : decode cX11_weighCrowds 69 = .ok (.getfield 36, 3) := by decide +kernel
theorem dX11_weighCrowds_72 : decode cX11_weighCrowds 72 = .ok (.getfield 163, 3) := by decide +kernel
theorem dX11_weighCrowds_75 : decode cX11_weighCrowds 75 = .ok (.if_icmp .ge 33, 3) := by decide +kernel
theorem dX11_weighCrowds_78 : decode cX11_weighCrowds 78 = .ok (.iload_n 3, 1) := by decide +kernel
theorem dX11_weighCrowds_79 : decode cX11_weighCrowds 79 = .ok (.iload 5, 2) := by decide +kernel
theorem dX11_weighCrowds_81 : decode cX11_weighCrowds 81 = .ok (.ishr, 1) := by decide +kernel
theorem dX11_weighCrowds_82 : decode cX11_weighCrowds 82 = .ok (.iconst 1, 1) := by decide +kernel
theorem dX11_weighCrowds_83 : decode cX11_weighCrowds 83 = .ok (.iand, 1) := by decide +kernel
theorem dX11_weighCrowds_84 : decode cX11_weighCrowds 84 = .ok (.ifCond .ne 18, 3) := by decide +kernel
theorem dX11_weighCrowds_87 : decode cX11_weighCrowds 87 = .ok (.iload 4, 2) := by decide +kernel
theorem dX11_weighCrowds_89 : decode cX11_weighCrowds 89 = .ok (.aload_n 0, 1) := by decide +kernel
theorem dX11_weighCrowds_90 : decode cX11_weighCrowds 90 = .ok (.iload 5, 2) := by decide +kernel
theorem dX11_weighCrowds_92 : decode cX11_weighCrowds 92 = .ok (.iload_n 2, 1) := by decide +kernel
theorem dX11_weighCrowds_93 : decode cX11_weighCrowds 93 = .ok (.iload_n 3, 1) := by decide +kernel
theorem dX11_weighCrowds_94 : decode cX11_weighCrowds 94 = .ok (.invokevirtual 321, 3) := by decide +kernel
theorem dX11_weighCrowds_97 : decode cX11_weighCrowds 97 = .ok (.invokestatic 201, 3) := by decide +kernel
theorem dX11_weighCrowds_100 : decode cX11_weighCrowds 100 = .ok (.istore 4, 2) := by decide +kernel
theorem dX11_weighCrowds_102 : decode cX11_weighCrowds 102 = .ok (.iinc 5 1, 3) := by decide +kernel
theorem dX11_weighCrowds_105 : decode cX11_weighCrowds 105 = .ok (.goto (-39), 3) := by decide +kernel
theorem dX11_weighCrowds_108 : decode cX11_weighCrowds 108 = .ok (.aload_n 0, 1) := by decide +kernel
theorem dX11_weighCrowds_109 : decode cX11_weighCrowds 109 = .ok (.getfield 59, 3) := by decide +kernel
theorem dX11_weighCrowds_112 : decode cX11_weighCrowds 112 = .ok (.iload_n 2, 1) := by decide +kernel
theorem dX11_weighCrowds_113 : decode cX11_weighCrowds 113 = .ok (.sipush 128, 3) := by decide +kernel
theorem dX11_weighCrowds_116 : decode cX11_weighCrowds 116 = .ok (.imul, 1) := by decide +kernel
theorem dX11_weighCrowds_117 : decode cX11_weighCrowds 117 = .ok (.iload_n 3, 1) := by decide +kernel
theorem dX11_weighCrowds_118 : decode cX11_weighCrowds 118 = .ok (.iadd, 1) := by decide +kernel
theorem dX11_weighCrowds_119 : decode cX11_weighCrowds 119 = .ok (.iload 4, 2) := by decide +kernel
theorem dX11_weighCrowds_121 : decode cX11_weighCrowds 121 = .ok (.iastore, 1) := by decide +kernel
theorem dX11_weighCrowds_122 : decode cX11_weighCrowds 122 = .ok (.iinc 3 1, 3) := by decide +kernel
theorem dX11_weighCrowds_125 : decode cX11_weighCrowds 125 = .ok (.goto (-83), 3) := by decide +kernel
theorem dX11_weighCrowds_128 : decode cX11_weighCrowds 128 = .ok (.iinc 2 (-1), 3) := by decide +kernel
theorem dX11_weighCrowds_131 : decode cX11_weighCrowds 131 = .ok (.goto (-95), 3) := by decide +kernel
theorem dX11_weighCrowds_134 : decode cX11_weighCrowds 134 = .ok (.return_, 1) := by decide +kernel
theorem dX11_mostWith_0 : decode cX11_mostWith 0 = .ok (.aload_n 0, 1) := by decide +kernel
theorem dX11_mostWith_1 : decode cX11_mostWith 1 = .ok (.getfield 63, 3) := by decide +kernel
theorem dX11_mostWith_4 : decode cX11_mostWith 4 = .ok (.iload_n 1, 1) := by decide +kernel
theorem dX11_mostWith_5 : decode cX11_mostWith 5 = .ok (.iconst 5, 1) := by decide +kernel
theorem dX11_mostWith_6 : decode cX11_mostWith 6 = .ok (.imul, 1) := by decide +kernel
theorem dX11_mostWith_7 : decode cX11_mostWith 7 = .ok (.iload_n 2, 1) := by decide +kernel
theorem dX11_mostWith_8 : decode cX11_mostWith 8 = .ok (.iadd, 1) := by decide +kernel
theorem dX11_mostWith_9 : decode cX11_mostWith 9 = .ok (.iaload, 1) := by decide +kernel
theorem dX11_mostWith_10 : decode cX11_mostWith 10 = .ok (.aload_n 0, 1) := by decide +kernel
theorem dX11_mostWith_11 : decode cX11_mostWith 11 = .ok (.getfield 59, 3) := by decide +kernel
theorem dX11_mostWith_14 : decode cX11_mostWith 14 = .ok (.iload_n 2, 1) := by decide +kernel
theorem dX11_mostWith_15 : decode cX11_mostWith 15 = .ok (.iconst 1, 1) := by decide +kernel
theorem dX11_mostWith_16 : decode cX11_mostWith 16 = .ok (.iadd, 1) := by decide +kernel
theorem dX11_mostWith_17 : decode cX11_mostWith 17 = .ok (.sipush 128, 3) := by decide +kernel
theorem dX11_mostWith_20 : decode cX11_mostWith 20 = .ok (.imul, 1) := by decide +kernel
theorem dX11_mostWith_21 : decode cX11_mostWith 21 = .ok (.iload_n 3, 1) := by decide +kernel
theorem dX11_mostWith_22 : decode cX11_mostWith 22 = .ok (.iconst 1, 1) := by decide +kernel
theorem dX11_mostWith_23 : decode cX11_mostWith 23 = .ok (.iload_n 1, 1) := by decide +kernel
theorem dX11_mostWith_24 : decode cX11_mostWith 24 = .ok (.ishl, 1) := by decide +kernel
theorem dX11_mostWith_25 : decode cX11_mostWith 25 = .ok (.ior, 1) := by decide +kernel
theorem dX11_mostWith_26 : decode cX11_mostWith 26 = .ok (.iadd, 1) := by decide +kernel
theorem dX11_mostWith_27 : decode cX11_mostWith 27 = .ok (.iaload, 1) := by decide +kernel
theorem dX11_mostWith_28 : decode cX11_mostWith 28 = .ok (.iadd, 1) := by decide +kernel
theorem dX11_mostWith_29 : decode cX11_mostWith 29 = .ok (.ireturn, 1) := by decide +kernel
theorem dX11_firstCarer_0 : decode cX11_firstCarer 0 = .ok (.iconst 0, 1) := by decide +kernel
theorem dX11_firstCarer_1 : decode cX11_firstCarer 1 = .ok (.istore_n 3, 1) := by decide +kernel
theorem dX11_firstCarer_2 : decode cX11_firstCarer 2 = .ok (.iload_n 3, 1) := by decide +kernel
theorem dX11_firstCarer_3 : decode cX11_firstCarer 3 = .ok (.aload_n 0, 1) := by decide +kernel
theorem dX11_firstCarer_4 : decode cX11_firstCarer 4 = .ok (.getfield 36, 3) := by decide +kernel
theorem dX11_firstCarer_7 : decode cX11_firstCarer 7 = .ok (.getfield 163, 3) := by decide +kernel
theorem dX11_firstCarer_10 : decode cX11_firstCarer 10 = .ok (.if_icmp .ge 41, 3) := by decide +kernel
theorem dX11_firstCarer_13 : decode cX11_firstCarer 13 = .ok (.iload_n 2, 1) := by decide +kernel
theorem dX11_firstCarer_14 : decode cX11_firstCarer 14 = .ok (.iload_n 3, 1) := by decide +kernel
theorem dX11_firstCarer_15 : decode cX11_firstCarer 15 = .ok (.ishr, 1) := by decide +kernel
theorem dX11_firstCarer_16 : decode cX11_firstCarer 16 = .ok (.iconst 1, 1) := by decide +kernel
theorem dX11_firstCarer_17 : decode cX11_firstCarer 17 = .ok (.iand, 1) := by decide +kernel
theorem dX11_firstCarer_18 : decode cX11_firstCarer 18 = .ok (.ifCond .ne 27, 3) := by decide +kernel
theorem dX11_firstCarer_21 : decode cX11_firstCarer 21 = .ok (.aload_n 0, 1) := by decide +kernel
theorem dX11_firstCarer_22 : decode cX11_firstCarer 22 = .ok (.iload_n 3, 1) := by decide +kernel
theorem dX11_firstCarer_23 : decode cX11_firstCarer 23 = .ok (.iload_n 1, 1) := by decide +kernel
theorem dX11_firstCarer_24 : decode cX11_firstCarer 24 = .ok (.iload_n 2, 1) := by decide +kernel
theorem dX11_firstCarer_25 : decode cX11_firstCarer 25 = .ok (.invokevirtual 321, 3) := by decide +kernel
theorem dX11_firstCarer_28 : decode cX11_firstCarer 28 = .ok (.aload_n 0, 1) := by decide +kernel
theorem dX11_firstCarer_29 : decode cX11_firstCarer 29 = .ok (.getfield 59, 3) := by decide +kernel
theorem dX11_firstCarer_32 : decode cX11_firstCarer 32 = .ok (.iload_n 1, 1) := by decide +kernel
theorem dX11_firstCarer_33 : decode cX11_firstCarer 33 = .ok (.sipush 128, 3) := by decide +kernel
theorem dX11_firstCarer_36 : decode cX11_firstCarer 36 = .ok (.imul, 1) := by decide +kernel
theorem dX11_firstCarer_37 : decode cX11_firstCarer 37 = .ok (.iload_n 2, 1) := by decide +kernel
theorem dX11_firstCarer_38 : decode cX11_firstCarer 38 = .ok (.iadd, 1) := by decide +kernel
theorem dX11_firstCarer_39 : decode cX11_firstCarer 39 = .ok (.iaload, 1) := by decide +kernel
theorem dX11_firstCarer_40 : decode cX11_firstCarer 40 = .ok (.if_icmp .ne 5, 3) := by decide +kernel
theorem dX11_firstCarer_43 : decode cX11_firstCarer 43 = .ok (.iload_n 3, 1) := by decide +kernel
theorem dX11_firstCarer_44 : decode cX11_firstCarer 44 = .ok (.ireturn, 1) := by decide +kernel
theorem dX11_firstCarer_45 : decode cX11_firstCarer 45 = .ok (.iinc 3 1, 3) := by decide +kernel
theorem dX11_firstCarer_48 : decode cX11_firstCarer 48 = .ok (.goto (-46), 3) := by decide +kernel
theorem dX11_firstCarer_51 : decode cX11_firstCarer 51 = .ok (.bipush 9, 2) := by decide +kernel
theorem dX11_firstCarer_53 : decode cX11_firstCarer 53 = .ok (.ireturn, 1) := by decide +kernel
theorem dX11_richestOne_0 : decode cX11_richestOne 0 = .ok (.iconst (-1), 1) := by decide +kernel
theorem dX11_richestOne_1 : decode cX11_richestOne 1 = .ok (.istore_n 1, 1) := by decide +kernel
theorem dX11_richestOne_2 : decode cX11_richestOne 2 = .ok (.bipush (-4), 2) := by decide +kernel
theorem dX11_richestOne_4 : decode cX11_richestOne 4 = .ok (.istore_n 2, 1) := by decide +kernel
theorem dX11_richestOne_5 : decode cX11_richestOne 5 = .ok (.iconst 0, 1) := by decide +kernel
theorem dX11_richestOne_6 : decode cX11_richestOne 6 = .ok (.istore_n 3, 1) := by decide +kernel
theorem dX11_richestOne_7 : decode cX11_richestOne 7 = .ok (.iload_n 3, 1) := by decide +kernel
theorem dX11_richestOne_8 : decode cX11_richestOne 8 = .ok (.aload_n 0, 1) := by decide +kernel
theorem dX11_richestOne_9 : decode cX11_richestOne 9 = .ok (.getfield 36, 3) := by decide +kernel
theorem dX11_richestOne_12 : decode cX11_richestOne 12 = .ok (.getfield 163, 3) := by decide +kernel
theorem dX11_richestOne_15 : decode cX11_richestOne 15 = .ok (.if_icmp .ge 30, 3) := by decide +kernel
theorem dX11_richestOne_18 : decode cX11_richestOne 18 = .ok (.aload_n 0, 1) := by decide +kernel
theorem dX11_richestOne_19 : decode cX11_richestOne 19 = .ok (.getfield 36, 3) := by decide +kernel
theorem dX11_richestOne_22 : decode cX11_richestOne 22 = .ok (.iload_n 3, 1) := by decide +kernel
theorem dX11_richestOne_23 : decode cX11_richestOne 23 = .ok (.invokevirtual 191, 3) := by decide +kernel
theorem dX11_richestOne_26 : decode cX11_richestOne 26 = .ok (.istore 4, 2) := by decide +kernel
theorem dX11_richestOne_28 : decode cX11_richestOne 28 = .ok (.iload 4, 2) := by decide +kernel
theorem dX11_richestOne_30 : decode cX11_richestOne 30 = .ok (.iload_n 1, 1) := by decide +kernel
theorem dX11_richestOne_31 : decode cX11_richestOne 31 = .ok (.if_icmp .le 8, 3) := by decide +kernel
theorem dX11_richestOne_34 : decode cX11_richestOne 34 = .ok (.iload 4, 2) := by decide +kernel
theorem dX11_richestOne_36 : decode cX11_richestOne 36 = .ok (.istore_n 1, 1) := by decide +kernel
theorem dX11_richestOne_37 : decode cX11_richestOne 37 = .ok (.iload_n 3, 1) := by decide +kernel
theorem dX11_richestOne_38 : decode cX11_richestOne 38 = .ok (.istore_n 2, 1) := by decide +kernel
theorem dX11_richestOne_39 : decode cX11_richestOne 39 = .ok (.iinc 3 1, 3) := by decide +kernel
theorem dX11_richestOne_42 : decode cX11_richestOne 42 = .ok (.goto (-35), 3) := by decide +kernel
theorem dX11_richestOne_45 : decode cX11_richestOne 45 = .ok (.iload_n 2, 1) := by decide +kernel
theorem dX11_richestOne_46 : decode cX11_richestOne 46 = .ok (.ireturn, 1) := by decide +kernel
theorem dX11_longestTale_0 : decode cX11_longestTale 0 = .ok (.iconst 0, 1) := by decide +kernel
theorem dX11_longestTale_1 : decode cX11_longestTale 1 = .ok (.istore_n 1, 1) := by decide +kernel
theorem dX11_longestTale_2 : decode cX11_longestTale 2 = .ok (.bipush (-4), 2) := by decide +kernel
theorem dX11_longestTale_4 : decode cX11_longestTale 4 = .ok (.istore_n 2, 1) := by decide +kernel
theorem dX11_longestTale_5 : decode cX11_longestTale 5 = .ok (.iconst 0, 1) := by decide +kernel
theorem dX11_longestTale_6 : decode cX11_longestTale 6 = .ok (.istore_n 3, 1) := by decide +kernel
theorem dX11_longestTale_7 : decode cX11_longestTale 7 = .ok (.iload_n 3, 1) := by decide +kernel
theorem dX11_longestTale_8 : decode cX11_longestTale 8 = .ok (.aload_n 0, 1) := by decide +kernel
theorem dX11_longestTale_9 : decode cX11_longestTale 9 = .ok (.getfield 36, 3) := by decide +kernel
theorem dX11_longestTale_12 : decode cX11_longestTale 12 = .ok (.getfield 163, 3) := by decide +kernel
theorem dX11_longestTale_15 : decode cX11_longestTale 15 = .ok (.if_icmp .ge 53, 3) := by decide +kernel
theorem dX11_longestTale_18 : decode cX11_longestTale 18 = .ok (.iconst 0, 1) := by decide +kernel
theorem dX11_longestTale_19 : decode cX11_longestTale 19 = .ok (.istore 4, 2) := by decide +kernel
theorem dX11_longestTale_21 : decode cX11_longestTale 21 = .ok (.iload 4, 2) := by decide +kernel
theorem dX11_longestTale_23 : decode cX11_longestTale 23 = .ok (.iconst 5, 1) := by decide +kernel
theorem dX11_longestTale_24 : decode cX11_longestTale 24 = .ok (.if_icmp .ge 38, 3) := by decide +kernel
theorem dX11_longestTale_27 : decode cX11_longestTale 27 = .ok (.aload_n 0, 1) := by decide +kernel
theorem dX11_longestTale_28 : decode cX11_longestTale 28 = .ok (.getfield 36, 3) := by decide +kernel
theorem dX11_longestTale_31 : decode cX11_longestTale 31 = .ok (.iload_n 3, 1) := by decide +kernel
theorem dX11_longestTale_32 : decode cX11_longestTale 32 = .ok (.iload 4, 2) := by decide +kernel
theorem dX11_longestTale_34 : decode cX11_longestTale 34 = .ok (.invokevirtual 143, 3) := by decide +kernel
theorem dX11_longestTale_37 : decode cX11_longestTale 37 = .ok (.istore 5, 2) := by decide +kernel
theorem dX11_longestTale_39 : decode cX11_longestTale 39 = .ok (.iload 5, 2) := by decide +kernel
theorem dX11_longestTale_41 : decode cX11_longestTale 41 = .ok (.iload_n 1, 1) := by decide +kernel
theorem dX11_longestTale_42 : decode cX11_longestTale 42 = .ok (.if_icmp .le 14, 3) := by decide +kernel
theorem dX11_longestTale_45 : decode cX11_longestTale 45 = .ok (.iload 5, 2) := by decide +kernel
theorem dX11_longestTale_47 : decode cX11_longestTale 47 = .ok (.istore_n 1, 1) := by decide +kernel
theorem dX11_longestTale_48 : decode cX11_longestTale 48 = .ok (.bipush 10, 2) := by decide +kernel
theorem dX11_longestTale_50 : decode cX11_longestTale 50 = .ok (.iload_n 3, 1) := by decide +kernel
theorem dX11_longestTale_51 : decode cX11_longestTale 51 = .ok (.imul, 1) := by decide +kernel
theorem dX11_longestTale_52 : decode cX11_longestTale 52 = .ok (.iload 4, 2) := by decide +kernel
theorem dX11_longestTale_54 : decode cX11_longestTale 54 = .ok (.iadd, 1) := by decide +kernel
theorem dX11_longestTale_55 : decode cX11_longestTale 55 = .ok (.istore_n 2, 1) := by decide +kernel
theorem dX11_longestTale_56 : decode cX11_longestTale 56 = .ok (.iinc 4 1, 3) := by decide +kernel
theorem dX11_longestTale_59 : decode cX11_longestTale 59 = .ok (.goto (-38), 3) := by decide +kernel
theorem dX11_longestTale_62 : decode cX11_longestTale 62 = .ok (.iinc 3 1, 3) := by decide +kernel
theorem dX11_longestTale_65 : decode cX11_longestTale 65 = .ok (.goto (-58), 3) := by decide +kernel
theorem dX11_longestTale_68 : decode cX11_longestTale 68 = .ok (.iload_n 2, 1) := by decide +kernel
theorem dX11_longestTale_69 : decode cX11_longestTale 69 = .ok (.ireturn, 1) := by decide +kernel
theorem dX11_stillness_0 : decode cX11_stillness 0 = .ok (.aload_n 0, 1) := by decide +kernel
theorem dX11_stillness_1 : decode cX11_stillness 1 = .ok (.getfield 49, 3) := by decide +kernel
theorem dX11_stillness_4 : decode cX11_stillness 4 = .ok (.aload_n 0, 1) := by decide +kernel
theorem dX11_stillness_5 : decode cX11_stillness 5 = .ok (.getfield 36, 3) := by decide +kernel
theorem dX11_stillness_8 : decode cX11_stillness 8 = .ok (.invokevirtual 83, 3) := by decide +kernel
theorem dX11_stillness_11 : decode cX11_stillness 11 = .ok (.iconst 0, 1) := by decide +kernel
theorem dX11_stillness_12 : decode cX11_stillness 12 = .ok (.istore_n 1, 1) := by decide +kernel
theorem dX11_stillness_13 : decode cX11_stillness 13 = .ok (.iconst 1, 1) := by decide +kernel
theorem dX11_stillness_14 : decode cX11_stillness 14 = .ok (.istore_n 2, 1) := by decide +kernel
theorem dX11_stillness_15 : decode cX11_stillness 15 = .ok (.iload_n 2, 1) := by decide +kernel
theorem dX11_stillness_16 : decode cX11_stillness 16 = .ok (.bipush 60, 2) := by decide +kernel
theorem dX11_stillness_18 : decode cX11_stillness 18 = .ok (.if_icmp .gt 34, 3) := by decide +kernel
theorem dX11_stillness_21 : decode cX11_stillness 21 = .ok (.aload_n 0, 1) := by decide +kernel
theorem dX11_stillness_22 : decode cX11_stillness 22 = .ok (.getfield 49, 3) := by decide +kernel
theorem dX11_stillness_25 : decode cX11_stillness 25 = .ok (.invokevirtual 194, 3) := by decide +kernel
theorem dX11_stillness_28 : decode cX11_stillness 28 = .ok (.ifCond .eq 8, 3) := by decide +kernel
theorem dX11_stillness_31 : decode cX11_stillness 31 = .ok (.iload_n 2, 1) := by decide +kernel
theorem dX11_stillness_32 : decode cX11_stillness 32 = .ok (.istore_n 1, 1) := by decide +kernel
theorem dX11_stillness_33 : decode cX11_stillness 33 = .ok (.goto 13, 3) := by decide +kernel
theorem dX11_stillness_36 : decode cX11_stillness 36 = .ok (.iload_n 2, 1) := by decide +kernel
theorem dX11_stillness_37 : decode cX11_stillness 37 = .ok (.iload_n 1, 1) := by decide +kernel
theorem dX11_stillness_38 : decode cX11_stillness 38 = .ok (.isub, 1) := by decide +kernel
theorem dX11_stillness_39 : decode cX11_stillness 39 = .ok (.bipush 10, 2) := by decide +kernel
theorem dX11_stillness_41 : decode cX11_stillness 41 = .ok (.if_icmp .ne 5, 3) := by decide +kernel
theorem dX11_stillness_44 : decode cX11_stillness 44 = .ok (.iload_n 1, 1) := by decide +kernel
theorem dX11_stillness_45 : decode cX11_stillness 45 = .ok (.ireturn, 1) := by decide +kernel
theorem dX11_stillness_46 : decode cX11_stillness 46 = .ok (.iinc 2 1, 3) := by decide +kernel
theorem dX11_stillness_49 : decode cX11_stillness 49 = .ok (.goto (-34), 3) := by decide +kernel
theorem dX11_stillness_52 : decode cX11_stillness 52 = .ok (.bipush (-4), 2) := by decide +kernel
theorem dX11_stillness_54 : decode cX11_stillness 54 = .ok (.ireturn, 1) := by decide +kernel
theorem dX11_rivals_0 : decode cX11_rivals 0 = .ok (.iconst 0, 1) := by decide +kernel
theorem dX11_rivals_1 : decode cX11_rivals 1 = .ok (.istore_n 2, 1) := by decide +kernel
theorem dX11_rivals_2 : decode cX11_rivals 2 = .ok (.iconst 0, 1) := by decide +kernel
theorem dX11_rivals_3 : decode cX11_rivals 3 = .ok (.istore_n 3, 1) := by decide +kernel
theorem dX11_rivals_4 : decode cX11_rivals 4 = .ok (.iload_n 3, 1) := by decide +kernel
theorem dX11_rivals_5 : decode cX11_rivals 5 = .ok (.aload_n 0, 1) := by decide +kernel
theorem dX11_rivals_6 : decode cX11_rivals 6 = .ok (.getfield 36, 3) := by decide +kernel
theorem dX11_rivals_9 : decode cX11_rivals 9 = .ok (.getfield 163, 3) := by decide +kernel
theorem dX11_rivals_12 : decode cX11_rivals 12 = .ok (.if_icmp .ge 66, 3) := by decide +kernel
theorem dX11_rivals_15 : decode cX11_rivals 15 = .ok (.aload_n 0, 1) := by decide +kernel
theorem dX11_rivals_16 : decode cX11_rivals 16 = .ok (.getfield 36, 3) := by decide +kernel
theorem dX11_rivals_19 : decode cX11_rivals 19 = .ok (.iload_n 3, 1) := by decide +kernel
theorem dX11_rivals_20 : decode cX11_rivals 20 = .ok (.iload_n 1, 1) := by decide +kernel
theorem dX11_rivals_21 : decode cX11_rivals 21 = .ok (.invokevirtual 143, 3) := by decide +kernel
theorem dX11_rivals_24 : decode cX11_rivals 24 = .ok (.istore 4, 2) := by decide +kernel
theorem dX11_rivals_26 : decode cX11_rivals 26 = .ok (.iload_n 3, 1) := by decide +kernel
theorem dX11_rivals_27 : decode cX11_rivals 27 = .ok (.iconst 1, 1) := by decide +kernel
theorem dX11_rivals_28 : decode cX11_rivals 28 = .ok (.iadd, 1) := by decide +kernel
theorem dX11_rivals_29 : decode cX11_rivals 29 = .ok (.istore 5, 2) := by decide +kernel
theorem dX11_rivals_31 : decode cX11_rivals 31 = .ok (.iload 5, 2) := by decide +kernel
theorem dX11_rivals_33 : decode cX11_rivals 33 = .ok (.aload_n 0, 1) := by decide +kernel
theorem dX11_rivals_34 : decode cX11_rivals 34 = .ok (.getfield 36, 3) := by decide +kernel
theorem dX11_rivals_37 : decode cX11_rivals 37 = .ok (.getfield 163, 3) := by decide +kernel
theorem dX11_rivals_40 : decode cX11_rivals 40 = .ok (.if_icmp .ge 32, 3) := by decide +kernel
theorem dX11_rivals_43 : decode cX11_rivals 43 = .ok (.iload 4, 2) := by decide +kernel
theorem dX11_rivals_45 : decode cX11_rivals 45 = .ok (.ifCond .le 21, 3) := by decide +kernel
theorem dX11_rivals_48 : decode cX11_rivals 48 = .ok (.aload_n 0, 1) := by decide +kernel
theorem dX11_rivals_49 : decode cX11_rivals 49 = .ok (.getfield 36, 3) := by decide +kernel
theorem dX11_rivals_52 : decode cX11_rivals 52 = .ok (.iload 5, 2) := by decide +kernel
theorem dX11_rivals_54 : decode cX11_rivals 54 = .ok (.iload_n 1, 1) := by decide +kernel
theorem dX11_rivals_55 : decode cX11_rivals 55 = .ok (.invokevirtual 143, 3) := by decide +kernel
theorem dX11_rivals_58 : decode cX11_rivals 58 = .ok (.iload 4, 2) := by decide +kernel
theorem dX11_rivals_60 : decode cX11_rivals 60 = .ok (.if_icmp .ne 6, 3) := by decide +kernel
theorem dX11_rivals_63 : decode cX11_rivals 63 = .ok (.iinc 2 1, 3) := by decide +kernel
theorem dX11_rivals_66 : decode cX11_rivals 66 = .ok (.iinc 5 1, 3) := by decide +kernel
theorem dX11_rivals_69 : decode cX11_rivals 69 = .ok (.goto (-38), 3) := by decide +kernel
theorem dX11_rivals_72 : decode cX11_rivals 72 = .ok (.iinc 3 1, 3) := by decide +kernel
theorem dX11_rivals_75 : decode cX11_rivals 75 = .ok (.goto (-71), 3) := by decide +kernel
theorem dX11_rivals_78 : decode cX11_rivals 78 = .ok (.iload_n 2, 1) := by decide +kernel
theorem dX11_rivals_79 : decode cX11_rivals 79 = .ok (.ireturn, 1) := by decide +kernel
theorem dX11_mindTells_0 : decode cX11_mindTells 0 = .ok (.aload_n 0, 1) := by decide +kernel
theorem dX11_mindTells_1 : decode cX11_mindTells 1 = .ok (.getfield 49, 3) := by decide +kernel
theorem dX11_mindTells_4 : decode cX11_mindTells 4 = .ok (.getfield 112, 3) := by decide +kernel
theorem dX11_mindTells_7 : decode cX11_mindTells 7 = .ok (.iload_n 2, 1) := by decide +kernel
theorem dX11_mindTells_8 : decode cX11_mindTells 8 = .ok (.iaload, 1) := by decide +kernel
theorem dX11_mindTells_9 : decode cX11_mindTells 9 = .ok (.istore_n 3, 1) := by decide +kernel
theorem dX11_mindTells_10 : decode cX11_mindTells 10 = .ok (.iconst 0, 1) := by decide +kernel
theorem dX11_mindTells_11 : decode cX11_mindTells 11 = .ok (.istore 4, 2) := by decide +kernel
theorem dX11_mindTells_13 : decode cX11_mindTells 13 = .ok (.iload 4, 2) := by decide +kernel
theorem dX11_mindTells_15 : decode cX11_mindTells 15 = .ok (.aload_n 1, 1) := by decide +kernel
theorem dX11_mindTells_16 : decode cX11_mindTells 16 = .ok (.getfield 87, 3) := by decide +kernel
theorem dX11_mindTells_19 : decode cX11_mindTells 19 = .ok (.if_icmp .ge 48, 3) := by decide +kernel
theorem dX11_mindTells_22 : decode cX11_mindTells 22 = .ok (.aload_n 1, 1) := by decide +kernel
theorem dX11_mindTells_23 : decode cX11_mindTells 23 = .ok (.iload 4, 2) := by decide +kernel
theorem dX11_mindTells_25 : decode cX11_mindTells 25 = .ok (.iload_n 3, 1) := by decide +kernel
theorem dX11_mindTells_26 : decode cX11_mindTells 26 = .ok (.invokestatic 125, 3) := by decide +kernel
theorem dX11_mindTells_29 : decode cX11_mindTells 29 = .ok (.ifCond .eq 15, 3) := by decide +kernel
theorem dX11_mindTells_32 : decode cX11_mindTells 32 = .ok (.aload_n 0, 1) := by decide +kernel
theorem dX11_mindTells_33 : decode cX11_mindTells 33 = .ok (.getfield 49, 3) := by decide +kernel
theorem dX11_mindTells_36 : decode cX11_mindTells 36 = .ok (.iload_n 2, 1) := by decide +kernel
theorem dX11_mindTells_37 : decode cX11_mindTells 37 = .ok (.iload_n 3, 1) := by decide +kernel
theorem dX11_mindTells_38 : decode cX11_mindTells 38 = .ok (.invokevirtual 143, 3) := by decide +kernel
theorem dX11_mindTells_41 : decode cX11_mindTells 41 = .ok (.goto 4, 3) := by decide +kernel
theorem dX11_mindTells_44 : decode cX11_mindTells 44 = .ok (.iconst 0, 1) := by decide +kernel
theorem dX11_mindTells_45 : decode cX11_mindTells 45 = .ok (.invokevirtual 254, 3) := by decide +kernel
theorem dX11_mindTells_48 : decode cX11_mindTells 48 = .ok (.ifCond .ne 5, 3) := by decide +kernel
theorem dX11_mindTells_51 : decode cX11_mindTells 51 = .ok (.iconst 0, 1) := by decide +kernel
theorem dX11_mindTells_52 : decode cX11_mindTells 52 = .ok (.ireturn, 1) := by decide +kernel
theorem dX11_mindTells_53 : decode cX11_mindTells 53 = .ok (.aload_n 0, 1) := by decide +kernel
theorem dX11_mindTells_54 : decode cX11_mindTells 54 = .ok (.getfield 49, 3) := by decide +kernel
theorem dX11_mindTells_57 : decode cX11_mindTells 57 = .ok (.invokevirtual 194, 3) := by decide +kernel
theorem dX11_mindTells_60 : decode cX11_mindTells 60 = .ok (.pop, 1) := by decide +kernel
theorem dX11_mindTells_61 : decode cX11_mindTells 61 = .ok (.iinc 4 1, 3) := by decide +kernel
theorem dX11_mindTells_64 : decode cX11_mindTells 64 = .ok (.goto (-51), 3) := by decide +kernel
theorem dX11_mindTells_67 : decode cX11_mindTells 67 = .ok (.iconst 1, 1) := by decide +kernel
theorem dX11_mindTells_68 : decode cX11_mindTells 68 = .ok (.ireturn, 1) := by decide +kernel
theorem dX11_mindHasStories_0 : decode cX11_mindHasStories 0 = .ok (.aload_n 1, 1) := by decide +kernel
theorem dX11_mindHasStories_1 : decode cX11_mindHasStories 1 = .ok (.getfield 87, 3) := by decide +kernel
theorem dX11_mindHasStories_4 : decode cX11_mindHasStories 4 = .ok (.aload_n 0, 1) := by decide +kernel
theorem dX11_mindHasStories_5 : decode cX11_mindHasStories 5 = .ok (.getfield 49, 3) := by decide +kernel
theorem dX11_mindHasStories_8 : decode cX11_mindHasStories 8 = .ok (.getfield 163, 3) := by decide +kernel
theorem dX11_mindHasStories_11 : decode cX11_mindHasStories 11 = .ok (.if_icmp .le 5, 3) := by decide +kernel
theorem dX11_mindHasStories_14 : decode cX11_mindHasStories 14 = .ok (.iconst 0, 1) := by decide +kernel
theorem dX11_mindHasStories_15 : decode cX11_mindHasStories 15 = .ok (.ireturn, 1) := by decide +kernel
theorem dX11_mindHasStories_16 : decode cX11_mindHasStories 16 = .ok (.iconst 0, 1) := by decide +kernel
theorem dX11_mindHasStories_17 : decode cX11_mindHasStories 17 = .ok (.istore_n 3, 1) := by decide +kernel
theorem dX11_mindHasStories_18 : decode cX11_mindHasStories 18 = .ok (.iload_n 3, 1) := by decide +kernel
theorem dX11_mindHasStories_19 : decode cX11_mindHasStories 19 = .ok (.aload_n 1, 1) := by decide +kernel
theorem dX11_mindHasStories_20 : decode cX11_mindHasStories 20 = .ok (.getfield 87, 3) := by decide +kernel
theorem dX11_mindHasStories_23 : decode cX11_mindHasStories 23 = .ok (.if_icmp .ge 28, 3) := by decide +kernel
theorem dX11_mindHasStories_26 : decode cX11_mindHasStories 26 = .ok (.aload_n 1, 1) := by decide +kernel
theorem dX11_mindHasStories_27 : decode cX11_mindHasStories 27 = .ok (.iload_n 3, 1) := by decide +kernel
theorem dX11_mindHasStories_28 : decode cX11_mindHasStories 28 = .ok (.aload_n 0, 1) := by decide +kernel
theorem dX11_mindHasStories_29 : decode cX11_mindHasStories 29 = .ok (.getfield 49, 3) := by decide +kernel
theorem dX11_mindHasStories_32 : decode cX11_mindHasStories 32 = .ok (.iload_n 3, 1) := by decide +kernel
theorem dX11_mindHasStories_33 : decode cX11_mindHasStories 33 = .ok (.iload_n 2, 1) := by decide +kernel
theorem dX11_mindHasStories_34 : decode cX11_mindHasStories 34 = .ok (.invokevirtual 143, 3) := by decide +kernel
theorem dX11_mindHasStories_37 : decode cX11_mindHasStories 37 = .ok (.invokevirtual 254, 3) := by decide +kernel
theorem dX11_mindHasStories_40 : decode cX11_mindHasStories 40 = .ok (.ifCond .ne 5, 3) := by decide +kernel
theorem dX11_mindHasStories_43 : decode cX11_mindHasStories 43 = .ok (.iconst 0, 1) := by decide +kernel
theorem dX11_mindHasStories_44 : decode cX11_mindHasStories 44 = .ok (.ireturn, 1) := by decide +kernel
theorem dX11_mindHasStories_45 : decode cX11_mindHasStories 45 = .ok (.iinc 3 1, 3) := by decide +kernel
theorem dX11_mindHasStories_48 : decode cX11_mindHasStories 48 = .ok (.goto (-30), 3) := by decide +kernel
theorem dX11_mindHasStories_51 : decode cX11_mindHasStories 51 = .ok (.iconst 1, 1) := by decide +kernel
theorem dX11_mindHasStories_52 : decode cX11_mindHasStories 52 = .ok (.ireturn, 1) := by decide +kernel
theorem dX11_floodWays_0 : decode cX11_floodWays 0 = .ok (.aload_n 0, 1) := by decide +kernel
theorem dX11_floodWays_1 : decode cX11_floodWays 1 = .ok (.iload_n 1, 1) := by decide +kernel
theorem dX11_floodWays_2 : decode cX11_floodWays 2 = .ok (.aaload, 1) := by decide +kernel
theorem dX11_floodWays_3 : decode cX11_floodWays 3 = .ok (.astore 6, 2) := by decide +kernel
theorem dX11_floodWays_5 : decode cX11_floodWays 5 = .ok (.iload_n 2, 1) := by decide +kernel
theorem dX11_floodWays_6 : decode cX11_floodWays 6 = .ok (.ifCond .le 9, 3) := by decide +kernel
theorem dX11_floodWays_9 : decode cX11_floodWays 9 = .ok (.iload_n 1, 1) := by decide +kernel
theorem dX11_floodWays_10 : decode cX11_floodWays 10 = .ok (.bipush 7, 2) := by decide +kernel
theorem dX11_floodWays_12 : decode cX11_floodWays 12 = .ok (.if_icmp .lt 22, 3) := by decide +kernel
theorem dX11_floodWays_15 : decode cX11_floodWays 15 = .ok (.aload 6, 2) := by decide +kernel
theorem dX11_floodWays_17 : decode cX11_floodWays 17 = .ok (.getfield 134, 3) := by decide +kernel
theorem dX11_floodWays_20 : decode cX11_floodWays 20 = .ok (.iload 5, 2) := by decide +kernel
theorem dX11_floodWays_22 : decode cX11_floodWays 22 = .ok (.iaload, 1) := by decide +kernel
theorem dX11_floodWays_23 : decode cX11_floodWays 23 = .ok (.iload 4, 2) := by decide +kernel
theorem dX11_floodWays_25 : decode cX11_floodWays 25 = .ok (.if_icmp .ne 7, 3) := by decide +kernel
theorem dX11_floodWays_28 : decode cX11_floodWays 28 = .ok (.lconst 1, 1) := by decide +kernel
theorem dX11_floodWays_29 : decode cX11_floodWays 29 = .ok (.goto 4, 3) := by decide +kernel
theorem dX11_floodWays_32 : decode cX11_floodWays 32 = .ok (.lconst 0, 1) := by decide +kernel
theorem dX11_floodWays_33 : decode cX11_floodWays 33 = .ok (.lreturn, 1) := by decide +kernel
theorem dX11_floodWays_34 : decode cX11_floodWays 34 = .ok (.aload_n 0, 1) := by decide +kernel
theorem dX11_floodWays_35 : decode cX11_floodWays 35 = .ok (.iload_n 1, 1) := by decide +kernel
theorem dX11_floodWays_36 : decode cX11_floodWays 36 = .ok (.iconst 1, 1) := by decide +kernel
theorem dX11_floodWays_37 : decode cX11_floodWays 37 = .ok (.iadd, 1) := by decide +kernel
theorem dX11_floodWays_38 : decode cX11_floodWays 38 = .ok (.aaload, 1) := by decide +kernel
theorem dX11_floodWays_39 : decode cX11_floodWays 39 = .ok (.astore 7, 2) := by decide +kernel
theorem dX11_floodWays_41 : decode cX11_floodWays 41 = .ok (.aload 7, 2) := by decide +kernel
theorem dX11_floodWays_43 : decode cX11_floodWays 43 = .ok (.aload 6, 2) := by decide +kernel
theorem dX11_floodWays_45 : decode cX11_floodWays 45 = .ok (.invokevirtual 83, 3) := by decide +kernel
theorem dX11_floodWays_48 : decode cX11_floodWays 48 = .ok (.aload 7, 2) := by decide +kernel
theorem dX11_floodWays_50 : decode cX11_floodWays 50 = .ok (.invokevirtual 194, 3) := by decide +kernel
theorem dX11_floodWays_53 : decode cX11_floodWays 53 = .ok (.pop, 1) := by decide +kernel
theorem dX11_floodWays_54 : decode cX11_floodWays 54 = .ok (.aload_n 0, 1) := by decide +kernel
theorem dX11_floodWays_55 : decode cX11_floodWays 55 = .ok (.iload_n 1, 1) := by decide +kernel
theorem dX11_floodWays_56 : decode cX11_floodWays 56 = .ok (.iconst 1, 1) := by decide +kernel
theorem dX11_floodWays_57 : decode cX11_floodWays 57 = .ok (.iadd, 1) := by decide +kernel
theorem dX11_floodWays_58 : decode cX11_floodWays 58 = .ok (.iload_n 2, 1) := by decide +kernel
theorem dX11_floodWays_59 : decode cX11_floodWays 59 = .ok (.iconst 1, 1) := by decide +kernel
theorem dX11_floodWays_60 : decode cX11_floodWays 60 = .ok (.isub, 1) := by decide +kernel
theorem dX11_floodWays_61 : decode cX11_floodWays 61 = .ok (.iload_n 3, 1) := by decide +kernel
theorem dX11_floodWays_62 : decode cX11_floodWays 62 = .ok (.iload 4, 2) := by decide +kernel
theorem dX11_floodWays_64 : decode cX11_floodWays 64 = .ok (.iload 5, 2) := by decide +kernel
theorem dX11_floodWays_66 : decode cX11_floodWays 66 = .ok (.invokestatic 240, 3) := by decide +kernel
theorem dX11_floodWays_69 : decode cX11_floodWays 69 = .ok (.lstore 8, 2) := by decide +kernel
theorem dX11_floodWays_71 : decode cX11_floodWays 71 = .ok (.aload 7, 2) := by decide +kernel
theorem dX11_floodWays_73 : decode cX11_floodWays 73 = .ok (.aload 6, 2) := by decide +kernel
theorem dX11_floodWays_75 : decode cX11_floodWays 75 = .ok (.invokevirtual 83, 3) := by decide +kernel
theorem dX11_floodWays_78 : decode cX11_floodWays 78 = .ok (.aload 7, 2) := by decide +kernel
theorem dX11_floodWays_80 : decode cX11_floodWays 80 = .ok (.invokevirtual 324, 3) := by decide +kernel
theorem dX11_floodWays_83 : decode cX11_floodWays 83 = .ok (.aload 7, 2) := by decide +kernel
theorem dX11_floodWays_85 : decode cX11_floodWays 85 = .ok (.invokevirtual 194, 3) := by decide +kernel
theorem dX11_floodWays_88 : decode cX11_floodWays 88 = .ok (.pop, 1) := by decide +kernel
theorem dX11_floodWays_89 : decode cX11_floodWays 89 = .ok (.iload_n 3, 1) := by decide +kernel
theorem dX11_floodWays_90 : decode cX11_floodWays 90 = .ok (.iconst 1, 1) := by decide +kernel
theorem dX11_floodWays_91 : decode cX11_floodWays 91 = .ok (.isub, 1) := by decide +kernel
theorem dX11_floodWays_92 : decode cX11_floodWays 92 = .ok (.i2l, 1) := by decide +kernel
theorem dX11_floodWays_93 : decode cX11_floodWays 93 = .ok (.lload 8, 2) := by decide +kernel
theorem dX11_floodWays_95 : decode cX11_floodWays 95 = .ok (.lmul, 1) := by decide +kernel
theorem dX11_floodWays_96 : decode cX11_floodWays 96 = .ok (.aload_n 0, 1) := by decide +kernel
theorem dX11_floodWays_97 : decode cX11_floodWays 97 = .ok (.iload_n 1, 1) := by decide +kernel
theorem dX11_floodWays_98 : decode cX11_floodWays 98 = .ok (.iconst 1, 1) := by decide +kernel
theorem dX11_floodWays_99 : decode cX11_floodWays 99 = .ok (.iadd, 1) := by decide +kernel
theorem dX11_floodWays_100 : decode cX11_floodWays 100 = .ok (.iload_n 2, 1) := by decide +kernel
theorem dX11_floodWays_101 : decode cX11_floodWays 101 = .ok (.iconst 1, 1) := by decide +kernel
theorem dX11_floodWays_102 : decode cX11_floodWays 102 = .ok (.isub, 1) := by decide +kernel
theorem dX11_floodWays_103 : decode cX11_floodWays 103 = .ok (.iload_n 3, 1) := by decide +kernel
theorem dX11_floodWays_104 : decode cX11_floodWays 104 = .ok (.iload 4, 2) := by decide +kernel
theorem dX11_floodWays_106 : decode cX11_floodWays 106 = .ok (.iload 5, 2) := by decide +kernel
theorem dX11_floodWays_108 : decode cX11_floodWays 108 = .ok (.invokestatic 240, 3) := by decide +kernel
theorem dX11_floodWays_111 : decode cX11_floodWays 111 = .ok (.ladd, 1) := by decide +kernel
theorem dX11_floodWays_112 : decode cX11_floodWays 112 = .ok (.lreturn, 1) := by decide +kernel
theorem dX11_partOf_0 : decode cX11_partOf 0 = .ok (.lload_n 0, 1) := by decide +kernel
theorem dX11_partOf_1 : decode cX11_partOf 1 = .ok (.lstore 5, 2) := by decide +kernel
theorem dX11_partOf_3 : decode cX11_partOf 3 = .ok (.lload_n 2, 1) := by decide +kernel
theorem dX11_partOf_4 : decode cX11_partOf 4 = .ok (.lstore 7, 2) := by decide +kernel
theorem dX11_partOf_6 : decode cX11_partOf 6 = .ok (.iconst 0, 1) := by decide +kernel
theorem dX11_partOf_7 : decode cX11_partOf 7 = .ok (.istore 9, 2) := by decide +kernel
theorem dX11_partOf_9 : decode cX11_partOf 9 = .ok (.iload 9, 2) := by decide +kernel
theorem dX11_partOf_11 : decode cX11_partOf 11 = .ok (.sipush 200, 3) := by decide +kernel
theorem dX11_partOf_14 : decode cX11_partOf 14 = .ok (.if_icmp .ge 31, 3) := by decide +kernel
theorem dX11_partOf_17 : decode cX11_partOf 17 = .ok (.lload 7, 2) := by decide +kernel
theorem dX11_partOf_19 : decode cX11_partOf 19 = .ok (.lconst 0, 1) := by decide +kernel
theorem dX11_partOf_20 : decode cX11_partOf 20 = .ok (.lcmp, 1) := by decide +kernel
theorem dX11_partOf_21 : decode cX11_partOf 21 = .ok (.ifCond .le 24, 3) := by decide +kernel
theorem dX11_partOf_24 : decode cX11_partOf 24 = .ok (.lload 5, 2) := by decide +kernel
theorem dX11_partOf_26 : decode cX11_partOf 26 = .ok (.lload 7, 2) := by decide +kernel
theorem dX11_partOf_28 : decode cX11_partOf 28 = .ok (.lrem, 1) := by decide +kernel
theorem dX11_partOf_29 : decode cX11_partOf 29 = .ok (.lstore 10, 2) := by decide +kernel
theorem dX11_partOf_31 : decode cX11_partOf 31 = .ok (.lload 7, 2) := by decide +kernel
theorem dX11_partOf_33 : decode cX11_partOf 33 = .ok (.lstore 5, 2) := by decide +kernel
theorem dX11_partOf_35 : decode cX11_partOf 35 = .ok (.lload 10, 2) := by decide +kernel
theorem dX11_partOf_37 : decode cX11_partOf 37 = .ok (.lstore 7, 2) := by decide +kernel
theorem dX11_partOf_39 : decode cX11_partOf 39 = .ok (.iinc 9 1, 3) := by decide +kernel
theorem dX11_partOf_42 : decode cX11_partOf 42 = .ok (.goto (-33), 3) := by decide +kernel
theorem dX11_partOf_45 : decode cX11_partOf 45 = .ok (.lload 5, 2) := by decide +kernel
theorem dX11_partOf_47 : decode cX11_partOf 47 = .ok (.lconst 0, 1) := by decide +kernel
theorem dX11_partOf_48 : decode cX11_partOf 48 = .ok (.lcmp, 1) := by decide +kernel
theorem dX11_partOf_49 : decode cX11_partOf 49 = .ok (.ifCond .gt 14, 3) := by decide +kernel
theorem dX11_partOf_52 : decode cX11_partOf 52 = .ok (.iload 4, 2) := by decide +kernel
theorem dX11_partOf_54 : decode cX11_partOf 54 = .ok (.ifCond .ne 7, 3) := by decide +kernel
theorem dX11_partOf_57 : decode cX11_partOf 57 = .ok (.lconst 0, 1) := by decide +kernel
theorem dX11_partOf_58 : decode cX11_partOf 58 = .ok (.goto 4, 3) := by decide +kernel
theorem dX11_partOf_61 : decode cX11_partOf 61 = .ok (.lconst 1, 1) := by decide +kernel
theorem dX11_partOf_62 : decode cX11_partOf 62 = .ok (.lreturn, 1) := by decide +kernel
theorem dX11_partOf_63 : decode cX11_partOf 63 = .ok (.iload 4, 2) := by decide +kernel
theorem dX11_partOf_65 : decode cX11_partOf 65 = .ok (.ifCond .ne 10, 3) := by decide +kernel
theorem dX11_partOf_68 : decode cX11_partOf 68 = .ok (.lload_n 0, 1) := by decide +kernel
theorem dX11_partOf_69 : decode cX11_partOf 69 = .ok (.lload 5, 2) := by decide +kernel
theorem dX11_partOf_71 : decode cX11_partOf 71 = .ok (.ldiv, 1) := by decide +kernel
theorem dX11_partOf_72 : decode cX11_partOf 72 = .ok (.goto 7, 3) := by decide +kernel
theorem dX11_partOf_75 : decode cX11_partOf 75 = .ok (.lload_n 2, 1) := by decide +kernel
theorem dX11_partOf_76 : decode cX11_partOf 76 = .ok (.lload 5, 2) := by decide +kernel
theorem dX11_partOf_78 : decode cX11_partOf 78 = .ok (.ldiv, 1) := by decide +kernel
theorem dX11_partOf_79 : decode cX11_partOf 79 = .ok (.lreturn, 1) := by decide +kernel
theorem dX11_drawYear_0 : decode cX11_drawYear 0 = .ok (.aload_n 0, 1) := by decide +kernel
theorem dX11_drawYear_1 : decode cX11_drawYear 1 = .ok (.getfield 49, 3) := by decide +kernel
theorem dX11_drawYear_4 : decode cX11_drawYear 4 = .ok (.aload_n 0, 1) := by decide +kernel
theorem dX11_drawYear_5 : decode cX11_drawYear 5 = .ok (.getfield 36, 3) := by decide +kernel
theorem dX11_drawYear_8 : decode cX11_drawYear 8 = .ok (.invokevirtual 83, 3) := by decide +kernel
theorem dX11_drawYear_11 : decode cX11_drawYear 11 = .ok (.iload_n 1, 1) := by decide +kernel
theorem dX11_drawYear_12 : decode cX11_drawYear 12 = .ok (.istore_n 2, 1) := by decide +kernel
theorem dX11_drawYear_13 : decode cX11_drawYear 13 = .ok (.iconst 0, 1) := by decide +kernel
theorem dX11_drawYear_14 : decode cX11_drawYear 14 = .ok (.istore_n 3, 1) := by decide +kernel
theorem dX11_drawYear_15 : decode cX11_drawYear 15 = .ok (.iload_n 3, 1) := by decide +kernel
theorem dX11_drawYear_16 : decode cX11_drawYear 16 = .ok (.iconst 5, 1) := by decide +kernel
theorem dX11_drawYear_17 : decode cX11_drawYear 17 = .ok (.if_icmp .ge 31, 3) := by decide +kernel
theorem dX11_drawYear_20 : decode cX11_drawYear 20 = .ok (.iload_n 2, 1) := by decide +kernel
theorem dX11_drawYear_21 : decode cX11_drawYear 21 = .ok (.invokestatic 327, 3) := by decide +kernel
theorem dX11_drawYear_24 : decode cX11_drawYear 24 = .ok (.istore_n 2, 1) := by decide +kernel
theorem dX11_drawYear_25 : decode cX11_drawYear 25 = .ok (.aload_n 0, 1) := by decide +kernel
theorem dX11_drawYear_26 : decode cX11_drawYear 26 = .ok (.getfield 49, 3) := by decide +kernel
theorem dX11_drawYear_29 : decode cX11_drawYear 29 = .ok (.getfield 128, 3) := by decide +kernel
theorem dX11_drawYear_32 : decode cX11_drawYear 32 = .ok (.iload_n 3, 1) := by decide +kernel
theorem dX11_drawYear_33 : decode cX11_drawYear 33 = .ok (.iload_n 2, 1) := by decide +kernel
theorem dX11_drawYear_34 : decode cX11_drawYear 34 = .ok (.invokestatic 330, 3) := by decide +kernel
theorem dX11_drawYear_37 : decode cX11_drawYear 37 = .ok (.sipush 4096, 3) := by decide +kernel
theorem dX11_drawYear_40 : decode cX11_drawYear 40 = .ok (.irem, 1) := by decide +kernel
theorem dX11_drawYear_41 : decode cX11_drawYear 41 = .ok (.iastore, 1) := by decide +kernel
theorem dX11_drawYear_42 : decode cX11_drawYear 42 = .ok (.iinc 3 1, 3) := by decide +kernel
theorem dX11_drawYear_45 : decode cX11_drawYear 45 = .ok (.goto (-30), 3) := by decide +kernel
theorem dX11_drawYear_48 : decode cX11_drawYear 48 = .ok (.iconst 0, 1) := by decide +kernel
theorem dX11_drawYear_49 : decode cX11_drawYear 49 = .ok (.istore_n 3, 1) := by decide +kernel
theorem dX11_drawYear_50 : decode cX11_drawYear 50 = .ok (.iload_n 3, 1) := by decide +kernel
theorem dX11_drawYear_51 : decode cX11_drawYear 51 = .ok (.aload_n 0, 1) := by decide +kernel
theorem dX11_drawYear_52 : decode cX11_drawYear 52 = .ok (.getfield 49, 3) := by decide +kernel
theorem dX11_drawYear_55 : decode cX11_drawYear 55 = .ok (.getfield 163, 3) := by decide +kernel
theorem dX11_drawYear_58 : decode cX11_drawYear 58 = .ok (.if_icmp .ge 29, 3) := by decide +kernel
theorem dX11_drawYear_61 : decode cX11_drawYear 61 = .ok (.iload_n 2, 1) := by decide +kernel
theorem dX11_drawYear_62 : decode cX11_drawYear 62 = .ok (.invokestatic 327, 3) := by decide +kernel
theorem dX11_drawYear_65 : decode cX11_drawYear 65 = .ok (.istore_n 2, 1) := by decide +kernel
theorem dX11_drawYear_66 : decode cX11_drawYear 66 = .ok (.aload_n 0, 1) := by decide +kernel
theorem dX11_drawYear_67 : decode cX11_drawYear 67 = .ok (.getfield 49, 3) := by decide +kernel
theorem dX11_drawYear_70 : decode cX11_drawYear 70 = .ok (.getfield 112, 3) := by decide +kernel
theorem dX11_drawYear_73 : decode cX11_drawYear 73 = .ok (.iload_n 3, 1) := by decide +kernel
theorem dX11_drawYear_74 : decode cX11_drawYear 74 = .ok (.iload_n 2, 1) := by decide +kernel
theorem dX11_drawYear_75 : decode cX11_drawYear 75 = .ok (.invokestatic 330, 3) := by decide +kernel
theorem dX11_drawYear_78 : decode cX11_drawYear 78 = .ok (.iconst 5, 1) := by decide +kernel
theorem dX11_drawYear_79 : decode cX11_drawYear 79 = .ok (.irem, 1) := by decide +kernel
theorem dX11_drawYear_80 : decode cX11_drawYear 80 = .ok (.iastore, 1) := by decide +kernel
theorem dX11_drawYear_81 : decode cX11_drawYear 81 = .ok (.iinc 3 1, 3) := by decide +kernel
theorem dX11_drawYear_84 : decode cX11_drawYear 84 = .ok (.goto (-34), 3) := by decide +kernel
theorem dX11_drawYear_87 : decode cX11_drawYear 87 = .ok (.iload_n 2, 1) := by decide +kernel
theorem dX11_drawYear_88 : decode cX11_drawYear 88 = .ok (.ireturn, 1) := by decide +kernel
theorem dX11_nextSeed_0 : decode cX11_nextSeed 0 = .ok (.iload_n 0, 1) := by decide +kernel
theorem dX11_nextSeed_1 : decode cX11_nextSeed 1 = .ok (.ldc_w 333, 3) := by decide +kernel
theorem dX11_nextSeed_4 : decode cX11_nextSeed 4 = .ok (.imul, 1) := by decide +kernel
theorem dX11_nextSeed_5 : decode cX11_nextSeed 5 = .ok (.sipush 12345, 3) := by decide +kernel
theorem dX11_nextSeed_8 : decode cX11_nextSeed 8 = .ok (.iadd, 1) := by decide +kernel
theorem dX11_nextSeed_9 : decode cX11_nextSeed 9 = .ok (.ireturn, 1) := by decide +kernel
theorem dX11_draw_0 : decode cX11_draw 0 = .ok (.iload_n 0, 1) := by decide +kernel
theorem dX11_draw_1 : decode cX11_draw 1 = .ok (.ldc_w 334, 3) := by decide +kernel
theorem dX11_draw_4 : decode cX11_draw 4 = .ok (.iand, 1) := by decide +kernel
theorem dX11_draw_5 : decode cX11_draw 5 = .ok (.ldc_w 335, 3) := by decide +kernel
theorem dX11_draw_8 : decode cX11_draw 8 = .ok (.idiv, 1) := by decide +kernel
theorem dX11_draw_9 : decode cX11_draw 9 = .ok (.ireturn, 1) := by decide +kernel
theorem dX11_otherOwners_0 : decode cX11_otherOwners 0 = .ok (.iconst 0, 1) := by decide +kernel
theorem dX11_otherOwners_1 : decode cX11_otherOwners 1 = .ok (.istore_n 1, 1) := by decide +kernel
theorem dX11_otherOwners_2 : decode cX11_otherOwners 2 = .ok (.iconst 0, 1) := by decide +kernel
theorem dX11_otherOwners_3 : decode cX11_otherOwners 3 = .ok (.istore_n 2, 1) := by decide +kernel
theorem dX11_otherOwners_4 : decode cX11_otherOwners 4 = .ok (.iload_n 2, 1) := by decide +kernel
theorem dX11_otherOwners_5 : decode cX11_otherOwners 5 = .ok (.iconst 5, 1) := by decide +kernel
theorem dX11_otherOwners_6 : decode cX11_otherOwners 6 = .ok (.if_icmp .ge 47, 3) := by decide +kernel
theorem dX11_otherOwners_9 : decode cX11_otherOwners 9 = .ok (.aload_n 0, 1) := by decide +kernel
theorem dX11_otherOwners_10 : decode cX11_otherOwners 10 = .ok (.getfield 49, 3) := by decide +kernel
theorem dX11_otherOwners_13 : decode cX11_otherOwners 13 = .ok (.getfield 134, 3) := by decide +kernel
theorem dX11_otherOwners_16 : decode cX11_otherOwners 16 = .ok (.iload_n 2, 1) := by decide +kernel
theorem dX11_otherOwners_17 : decode cX11_otherOwners 17 = .ok (.iaload, 1) := by decide +kernel
theorem dX11_otherOwners_18 : decode cX11_otherOwners 18 = .ok (.bipush 9, 2) := by decide +kernel
theorem dX11_otherOwners_20 : decode cX11_otherOwners 20 = .ok (.if_icmp .eq 27, 3) := by decide +kernel
theorem dX11_otherOwners_23 : decode cX11_otherOwners 23 = .ok (.aload_n 0, 1) := by decide +kernel
theorem dX11_otherOwners_24 : decode cX11_otherOwners 24 = .ok (.getfield 49, 3) := by decide +kernel
theorem dX11_otherOwners_27 : decode cX11_otherOwners 27 = .ok (.getfield 134, 3) := by decide +kernel
theorem dX11_otherOwners_30 : decode cX11_otherOwners 30 = .ok (.iload_n 2, 1) := by decide +kernel
theorem dX11_otherOwners_31 : decode cX11_otherOwners 31 = .ok (.iaload, 1) := by decide +kernel
theorem dX11_otherOwners_32 : decode cX11_otherOwners 32 = .ok (.aload_n 0, 1) := by decide +kernel
theorem dX11_otherOwners_33 : decode cX11_otherOwners 33 = .ok (.getfield 36, 3) := by decide +kernel
theorem dX11_otherOwners_36 : decode cX11_otherOwners 36 = .ok (.getfield 134, 3) := by decide +kernel
theorem dX11_otherOwners_39 : decode cX11_otherOwners 39 = .ok (.iload_n 2, 1) := by decide +kernel
theorem dX11_otherOwners_40 : decode cX11_otherOwners 40 = .ok (.iaload, 1) := by decide +kernel
theorem dX11_otherOwners_41 : decode cX11_otherOwners 41 = .ok (.if_icmp .eq 6, 3) := by decide +kernel
theorem dX11_otherOwners_44 : decode cX11_otherOwners 44 = .ok (.iinc 1 1, 3) := by decide +kernel
theorem dX11_otherOwners_47 : decode cX11_otherOwners 47 = .ok (.iinc 2 1, 3) := by decide +kernel
theorem dX11_otherOwners_50 : decode cX11_otherOwners 50 = .ok (.goto (-46), 3) := by decide +kernel
theorem dX11_otherOwners_53 : decode cX11_otherOwners 53 = .ok (.iload_n 1, 1) := by decide +kernel
theorem dX11_otherOwners_54 : decode cX11_otherOwners 54 = .ok (.ireturn, 1) := by decide +kernel
theorem dX12_init_0 : decode cX12_init 0 = .ok (.aload_n 0, 1) := by decide +kernel
theorem dX12_init_1 : decode cX12_init 1 = .ok (.invokespecial 1, 3) := by decide +kernel
theorem dX12_init_4 : decode cX12_init 4 = .ok (.aload_n 0, 1) := by decide +kernel
theorem dX12_init_5 : decode cX12_init 5 = .ok (.iconst 5, 1) := by decide +kernel
theorem dX12_init_6 : decode cX12_init 6 = .ok (.newarray .int, 2) := by decide +kernel
theorem dX12_init_8 : decode cX12_init 8 = .ok (.putfield 7, 3) := by decide +kernel
theorem dX12_init_11 : decode cX12_init 11 = .ok (.aload_n 0, 1) := by decide +kernel
theorem dX12_init_12 : decode cX12_init 12 = .ok (.iconst 5, 1) := by decide +kernel
theorem dX12_init_13 : decode cX12_init 13 = .ok (.newarray .int, 2) := by decide +kernel
theorem dX12_init_15 : decode cX12_init 15 = .ok (.putfield 13, 3) := by decide +kernel
theorem dX12_init_18 : decode cX12_init 18 = .ok (.aload_n 0, 1) := by decide +kernel
theorem dX12_init_19 : decode cX12_init 19 = .ok (.iconst 5, 1) := by decide +kernel
theorem dX12_init_20 : decode cX12_init 20 = .ok (.newarray .int, 2) := by decide +kernel
theorem dX12_init_22 : decode cX12_init 22 = .ok (.putfield 16, 3) := by decide +kernel
theorem dX12_init_25 : decode cX12_init 25 = .ok (.aload_n 0, 1) := by decide +kernel
theorem dX12_init_26 : decode cX12_init 26 = .ok (.bipush 7, 2) := by decide +kernel
theorem dX12_init_28 : decode cX12_init 28 = .ok (.newarray .int, 2) := by decide +kernel
theorem dX12_init_30 : decode cX12_init 30 = .ok (.putfield 19, 3) := by decide +kernel
theorem dX12_init_33 : decode cX12_init 33 = .ok (.aload_n 0, 1) := by decide +kernel
theorem dX12_init_34 : decode cX12_init 34 = .ok (.bipush 7, 2) := by decide +kernel
theorem dX12_init_36 : decode cX12_init 36 = .ok (.newarray .int, 2) := by decide +kernel
theorem dX12_init_38 : decode cX12_init 38 = .ok (.putfield 22, 3) := by decide +kernel
theorem dX12_init_41 : decode cX12_init 41 = .ok (.aload_n 0, 1) := by decide +kernel
theorem dX12_init_42 : decode cX12_init 42 = .ok (.bipush 7, 2) := by decide +kernel
theorem dX12_init_44 : decode cX12_init 44 = .ok (.newarray .int, 2) := by decide +kernel
theorem dX12_init_46 : decode cX12_init 46 = .ok (.putfield 25, 3) := by decide +kernel
theorem dX12_init_49 : decode cX12_init 49 = .ok (.aload_n 0, 1) := by decide +kernel
theorem dX12_init_50 : decode cX12_init 50 = .ok (.bipush 35, 2) := by decide +kernel
theorem dX12_init_52 : decode cX12_init 52 = .ok (.newarray .int, 2) := by decide +kernel
theorem dX12_init_54 : decode cX12_init 54 = .ok (.putfield 28, 3) := by decide +kernel
theorem dX12_init_57 : decode cX12_init 57 = .ok (.aload_n 0, 1) := by decide +kernel
theorem dX12_init_58 : decode cX12_init 58 = .ok (.bipush 8, 2) := by decide +kernel
theorem dX12_init_60 : decode cX12_init 60 = .ok (.newarray .int, 2) := by decide +kernel
theorem dX12_init_62 : decode cX12_init 62 = .ok (.putfield 31, 3) := by decide +kernel
theorem dX12_init_65 : decode cX12_init 65 = .ok (.aload_n 0, 1) := by decide +kernel
theorem dX12_init_66 : decode cX12_init 66 = .ok (.bipush 8, 2) := by decide +kernel
theorem dX12_init_68 : decode cX12_init 68 = .ok (.newarray .int, 2) := by decide +kernel
theorem dX12_init_70 : decode cX12_init 70 = .ok (.putfield 34, 3) := by decide +kernel
theorem dX12_init_73 : decode cX12_init 73 = .ok (.aload_n 0, 1) := by decide +kernel
theorem dX12_init_74 : decode cX12_init 74 = .ok (.bipush 8, 2) := by decide +kernel
theorem dX12_init_76 : decode cX12_init 76 = .ok (.newarray .int, 2) := by decide +kernel
theorem dX12_init_78 : decode cX12_init 78 = .ok (.putfield 37, 3) := by decide +kernel
theorem dX12_init_81 : decode cX12_init 81 = .ok (.aload_n 0, 1) := by decide +kernel
theorem dX12_init_82 : decode cX12_init 82 = .ok (.bipush 8, 2) := by decide +kernel
theorem dX12_init_84 : decode cX12_init 84 = .ok (.newarray .int, 2) := by decide +kernel
theorem dX12_init_86 : decode cX12_init 86 = .ok (.putfield 40, 3) := by decide +kernel
theorem dX12_init_89 : decode cX12_init 89 = .ok (.aload_n 0, 1) := by decide +kernel
theorem dX12_init_90 : decode cX12_init 90 = .ok (.bipush 8, 2) := by decide +kernel
theorem dX12_init_92 : decode cX12_init 92 = .ok (.newarray .int, 2) := by decide +kernel
theorem dX12_init_94 : decode cX12_init 94 = .ok (.putfield 43, 3) := by decide +kernel
theorem dX12_init_97 : decode cX12_init 97 = .ok (.aload_n 0, 1) := by decide +kernel
theorem dX12_init_98 : decode cX12_init 98 = .ok (.sipush 800, 3) := by decide +kernel
theorem dX12_init_101 : decode cX12_init 101 = .ok (.newarray .long, 2) := by decide +kernel
theorem dX12_init_103 : decode cX12_init 103 = .ok (.putfield 46, 3) := by decide +kernel
theorem dX12_init_106 : decode cX12_init 106 = .ok (.aload_n 0, 1) := by decide +kernel
theorem dX12_init_107 : decode cX12_init 107 = .ok (.bipush 51, 2) := by decide +kernel
theorem dX12_init_109 : decode cX12_init 109 = .ok (.newarray .int, 2) := by decide +kernel
theorem dX12_init_111 : decode cX12_init 111 = .ok (.putfield 50, 3) := by decide +kernel
theorem dX12_init_114 : decode cX12_init 114 = .ok (.aload_n 0, 1) := by decide +kernel
theorem dX12_init_115 : decode cX12_init 115 = .ok (.bipush 51, 2) := by decide +kernel
theorem dX12_init_117 : decode cX12_init 117 = .ok (.newarray .int, 2) := by decide +kernel
theorem dX12_init_119 : decode cX12_init 119 = .ok (.putfield 53, 3) := by decide +kernel
theorem dX12_init_122 : decode cX12_init 122 = .ok (.aload_n 0, 1) := by decide +kernel
theorem dX12_init_123 : decode cX12_init 123 = .ok (.sipush 153, 3) := by decide +kernel
theorem dX12_init_126 : decode cX12_init 126 = .ok (.newarray .int, 2) := by decide +kernel
theorem dX12_init_128 : decode cX12_init 128 = .ok (.putfield 56, 3) := by decide +kernel
theorem dX12_init_131 : decode cX12_init 131 = .ok (.aload_n 0, 1) := by decide +kernel
theorem dX12_init_132 : decode cX12_init 132 = .ok (.bipush 73, 2) := by decide +kernel
theorem dX12_init_134 : decode cX12_init 134 = .ok (.newarray .int, 2) := by decide +kernel
theorem dX12_init_136 : decode cX12_init 136 = .ok (.putfield 59, 3) := by decide +kernel
theorem dX12_init_139 : decode cX12_init 139 = .ok (.aload_n 0, 1) := by decide +kernel
theorem dX12_init_140 : decode cX12_init 140 = .ok (.bipush 73, 2) := by decide +kernel
theorem dX12_init_142 : decode cX12_init 142 = .ok (.newarray .int, 2) := by decide +kernel
theorem dX12_init_144 : decode cX12_init 144 = .ok (.putfield 62, 3) := by decide +kernel
theorem dX12_init_147 : decode cX12_init 147 = .ok (.aload_n 0, 1) := by decide +kernel
theorem dX12_init_148 : decode cX12_init 148 = .ok (.sipush 768, 3) := by decide +kernel
theorem dX12_init_151 : decode cX12_init 151 = .ok (.newarray .int, 2) := by decide +kernel
theorem dX12_init_153 : decode cX12_init 153 = .ok (.putfield 65, 3) := by decide +kernel
theorem dX12_init_156 : decode cX12_init 156 = .ok (.aload_n 0, 1) := by decide +kernel
theorem dX12_init_157 : decode cX12_init 157 = .ok (.iconst 5, 1) := by decide +kernel
theorem dX12_init_158 : decode cX12_init 158 = .ok (.newarray .int, 2) := by decide +kernel
theorem dX12_init_160 : decode cX12_init 160 = .ok (.putfield 68, 3) := by decide +kernel
theorem dX12_init_163 : decode cX12_init 163 = .ok (.aload_n 0, 1) := by decide +kernel
theorem dX12_init_164 : decode cX12_init 164 = .ok (.bipush 8, 2) := by decide +kernel
theorem dX12_init_166 : decode cX12_init 166 = .ok (.newarray .int, 2) := by decide +kernel
theorem dX12_init_168 : decode cX12_init 168 = .ok (.putfield 71, 3) := by decide +kernel
theorem dX12_init_171 : decode cX12_init 171 = .ok (.aload_n 0, 1) := by decide +kernel
theorem dX12_init_172 : decode cX12_init 172 = .ok (.bipush 100, 2) := by decide +kernel
theorem dX12_init_174 : decode cX12_init 174 = .ok (.newarray .long, 2) := by decide +kernel
theorem dX12_init_176 : decode cX12_init 176 = .ok (.putfield 74, 3) := by decide +kernel
theorem dX12_init_179 : decode cX12_init 179 = .ok (.aload_n 0, 1) := by decide +kernel
theorem dX12_init_180 : decode cX12_init 180 = .ok (.iconst 0, 1) := by decide +kernel
theorem dX12_init_181 : decode cX12_init 181 = .ok (.putfield 77, 3) := by decide +kernel
theorem dX12_init_184 : decode cX12_init 184 = .ok (.iconst 0, 1) := by decide +kernel
theorem dX12_init_185 : decode cX12_init 185 = .ok (.istore_n 1, 1) := by decide +kernel
theorem dX12_init_186 : decode cX12_init 186 = .ok (.iload_n 1, 1) := by decide +kernel
theorem dX12_init_187 : decode cX12_init 187 = .ok (.iconst 5, 1) := by decide +kernel
theorem dX12_init_188 : decode cX12_init 188 = .ok (.if_icmp .ge 33, 3) := by decide +kernel
theorem dX12_init_191 : decode cX12_init 191 = .ok (.aload_n 0, 1) := by decide +kernel
theorem dX12_init_192 : decode cX12_init 192 = .ok (.getfield 7, 3) := by decide +kernel
theorem dX12_init_195 : decode cX12_init 195 = .ok (.iload_n 1, 1) := by decide +kernel
theorem dX12_init_196 : decode cX12_init 196 = .ok (.sipush 4095, 3) := by decide +kernel
theorem dX12_init_199 : decode cX12_init 199 = .ok (.iastore, 1) := by decide +kernel
theorem dX12_init_200 : decode cX12_init 200 = .ok (.aload_n 0, 1) := by decide +kernel
theorem dX12_init_201 : decode cX12_init 201 = .ok (.getfield 13, 3) := by decide +kernel
theorem dX12_init_204 : decode cX12_init 204 = .ok (.iload_n 1, 1) := by decide +kernel
theorem dX12_init_205 : decode cX12_init 205 = .ok (.iconst 1, 1) := by decide +kernel
theorem dX12_init_206 : decode cX12_init 206 = .ok (.iastore, 1) := by decide +kernel
theorem dX12_init_207 : decode cX12_init 207 = .ok (.aload_n 0, 1) := by decide +kernel
theorem dX12_init_208 : decode cX12_init 208 = .ok (.getfield 16, 3) := by decide +kernel
theorem dX12_init_211 : decode cX12_init 211 = .ok (.iload_n 1, 1) := by decide +kernel
theorem dX12_init_212 : decode cX12_init 212 = .ok (.bipush 9, 2) := by decide +kernel
theorem dX12_init_214 : decode cX12_init 214 = .ok (.iastore, 1) := by decide +kernel
theorem dX12_init_215 : decode cX12_init 215 = .ok (.iinc 1 1, 3) := by decide +kernel
theorem dX12_init_218 : decode cX12_init 218 = .ok (.goto (-32), 3) := by decide +kernel
theorem dX12_init_221 : decode cX12_init 221 = .ok (.return_, 1) := by decide +kernel
theorem dX12_thrown_0 : decode cX12_thrown 0 = .ok (.aload_n 0, 1) := by decide +kernel
theorem dX12_thrown_1 : decode cX12_thrown 1 = .ok (.getfield 77, 3) := by decide +kernel
theorem dX12_thrown_4 : decode cX12_thrown 4 = .ok (.ireturn, 1) := by decide +kernel
theorem dX12_in_0 : decode cX12_in 0 = .ok (.lload_n 0, 1) := by decide +kernel
theorem dX12_in_1 : decode cX12_in 1 = .ok (.lload_n 2, 1) := by decide +kernel
theorem dX12_in_2 : decode cX12_in 2 = .ok (.lcmp, 1) := by decide +kernel
theorem dX12_in_3 : decode cX12_in 3 = .ok (.ifCond .lt 14, 3) := by decide +kernel
theorem dX12_in_6 : decode cX12_in 6 = .ok (.lload_n 0, 1) := by decide +kernel
theorem dX12_in_7 : decode cX12_in 7 = .ok (.lload 4, 2) := by decide +kernel
theorem dX12_in_9 : decode cX12_in 9 = .ok (.lcmp, 1) := by decide +kernel
theorem dX12_in_10 : decode cX12_in 10 = .ok (.ifCond .gt 7, 3) := by decide +kernel
theorem dX12_in_13 : decode cX12_in 13 = .ok (.iconst 1, 1) := by decide +kernel
theorem dX12_in_14 : decode cX12_in 14 = .ok (.goto 4, 3) := by decide +kernel
theorem dX12_in_17 : decode cX12_in 17 = .ok (.iconst 0, 1) := by decide +kernel
theorem dX12_in_18 : decode cX12_in 18 = .ok (.ireturn, 1) := by decide +kernel
theorem dX12_hasBit_0 : decode cX12_hasBit 0 = .ok (.iload_n 0, 1) := by decide +kernel
theorem dX12_hasBit_1 : decode cX12_hasBit 1 = .ok (.iload_n 1, 1) := by decide +kernel
theorem dX12_hasBit_2 : decode cX12_hasBit 2 = .ok (.ishr, 1) := by decide +kernel
theorem dX12_hasBit_3 : decode cX12_hasBit 3 = .ok (.iconst 1, 1) := by decide +kernel
theorem dX12_hasBit_4 : decode cX12_hasBit 4 = .ok (.iand, 1) := by decide +kernel
theorem dX12_hasBit_5 : decode cX12_hasBit 5 = .ok (.iconst 1, 1) := by decide +kernel
theorem dX12_hasBit_6 : decode cX12_hasBit 6 = .ok (.if_icmp .ne 7, 3) := by decide +kernel
theorem dX12_hasBit_9 : decode cX12_hasBit 9 = .ok (.iconst 1, 1) := by decide +kernel
theorem dX12_hasBit_10 : decode cX12_hasBit 10 = .ok (.goto 4, 3) := by decide +kernel
theorem dX12_hasBit_13 : decode cX12_hasBit 13 = .ok (.iconst 0, 1) := by decide +kernel
theorem dX12_hasBit_14 : decode cX12_hasBit 14 = .ok (.ireturn, 1) := by decide +kernel
theorem dX12_onesOf_0 : decode cX12_onesOf 0 = .ok (.iconst 0, 1) := by decide +kernel
theorem dX12_onesOf_1 : decode cX12_onesOf 1 = .ok (.istore_n 1, 1) := by decide +kernel
theorem dX12_onesOf_2 : decode cX12_onesOf 2 = .ok (.iload_n 0, 1) := by decide +kernel
theorem dX12_onesOf_3 : decode cX12_onesOf 3 = .ok (.istore_n 2, 1) := by decide +kernel
theorem dX12_onesOf_4 : decode cX12_onesOf 4 = .ok (.iload_n 2, 1) := by decide +kernel
theorem dX12_onesOf_5 : decode cX12_onesOf 5 = .ok (.ifCond .eq 15, 3) := by decide +kernel
theorem dX12_onesOf_8 : decode cX12_onesOf 8 = .ok (.iinc 1 1, 3) := by decide +kernel
theorem dX12_onesOf_11 : decode cX12_onesOf 11 = .ok (.iload_n 2, 1) := by decide +kernel
theorem dX12_onesOf_12 : decode cX12_onesOf 12 = .ok (.iload_n 2, 1) := by decide +kernel
theorem dX12_onesOf_13 : decode cX12_onesOf 13 = .ok (.iconst 1, 1) := by decide +kernel
theorem dX12_onesOf_14 : decode cX12_onesOf 14 = .ok (.isub, 1) := by decide +kernel
theorem dX12_onesOf_15 : decode cX12_onesOf 15 = .ok (.iand, 1) := by decide +kernel
theorem dX12_onesOf_16 : decode cX12_onesOf 16 = .ok (.istore_n 2, 1) := by decide +kernel
theorem dX12_onesOf_17 : decode cX12_onesOf 17 = .ok (.goto (-13), 3) := by decide +kernel
theorem dX12_onesOf_20 : decode cX12_onesOf 20 = .ok (.iload_n 1, 1) := by decide +kernel
theorem dX12_onesOf_21 : decode cX12_onesOf 21 = .ok (.ireturn, 1) := by decide +kernel
theorem dX12_isThing_0 : decode cX12_isThing 0 = .ok (.iload_n 0, 1) := by decide +kernel
theorem dX12_isThing_1 : decode cX12_isThing 1 = .ok (.i2l, 1) := by decide +kernel
theorem dX12_isThing_2 : decode cX12_isThing 2 = .ok (.lconst 0, 1) := by decide +kernel
theorem dX12_isThing_3 : decode cX12_isThing 3 = .ok (.ldc2_w 81, 3) := by decide +kernel
theorem dX12_isThing_6 : decode cX12_isThing 6 = .ok (.invokestatic 83, 3) := by decide +kernel
theorem dX12_isThing_9 : decode cX12_isThing 9 = .ok (.ireturn, 1) := by decide +kernel
theorem dX12_isOne_0 : decode cX12_isOne 0 = .ok (.iload_n 1, 1) := by decide +kernel
theorem dX12_isOne_1 : decode cX12_isOne 1 = .ok (.i2l, 1) := by decide +kernel
theorem dX12_isOne_2 : decode cX12_isOne 2 = .ok (.lconst 0, 1) := by decide +kernel
theorem dX12_isOne_3 : decode cX12_isOne 3 = .ok (.aload_n 0, 1) := by decide +kernel
theorem dX12_isOne_4 : decode cX12_isOne 4 = .ok (.getfield 87, 3) := by decide +kernel
theorem dX12_isOne_7 : decode cX12_isOne 7 = .ok (.iconst 1, 1) := by decide +kernel
theorem dX12_isOne_8 : decode cX12_isOne 8 = .ok (.isub, 1) := by decide +kernel
theorem dX12_isOne_9 : decode cX12_isOne 9 = .ok (.i2l, 1) := by decide +kernel
theorem dX12_isOne_10 : decode cX12_isOne 10 = .ok (.invokestatic 83, 3) := by decide +kernel
theorem dX12_isOne_13 : decode cX12_isOne 13 = .ok (.ireturn, 1) := by decide +kernel
theorem dX12_isCare_0 : decode cX12_isCare 0 = .ok (.iload_n 0, 1) := by decide +kernel
theorem dX12_isCare_1 : decode cX12_isCare 1 = .ok (.invokestatic 90, 3) := by decide +kernel
theorem dX12_isCare_4 : decode cX12_isCare 4 = .ok (.ifCond .ne 9, 3) := by decide +kernel
theorem dX12_isCare_7 : decode cX12_isCare 7 = .ok (.iload_n 0, 1) := by decide +kernel
theorem dX12_isCare_8 : decode cX12_isCare 8 = .ok (.bipush 9, 2) := by decide +kernel
theorem dX12_isCare_10 : decode cX12_isCare 10 = .ok (.if_icmp .ne 7, 3) := by decide +kernel
theorem dX12_isCare_13 : decode cX12_isCare 13 = .ok (.iconst 1, 1) := by decide +kernel
theorem dX12_isCare_14 : decode cX12_isCare 14 = .ok (.goto 4, 3) := by decide +kernel
theorem dX12_isCare_17 : decode cX12_isCare 17 = .ok (.iconst 0, 1) := by decide +kernel
theorem dX12_isCare_18 : decode cX12_isCare 18 = .ok (.ireturn, 1) := by decide +kernel
theorem dX12_storyBy_0 : decode cX12_storyBy 0 = .ok (.iload_n 2, 1) := by decide +kernel
theorem dX12_storyBy_1 : decode cX12_storyBy 1 = .ok (.iload_n 3, 1) := by decide +kernel
theorem dX12_storyBy_2 : decode cX12_storyBy 2 = .ok (.iand, 1) := by decide +kernel
theorem dX12_storyBy_3 : decode cX12_storyBy 3 = .ok (.invokestatic 94, 3) := by decide +kernel
theorem dX12_storyBy_6 : decode cX12_storyBy 6 = .ok (.istore 4, 2) := by decide +kernel
theorem dX12_storyBy_8 : decode cX12_storyBy 8 = .ok (.iload 4, 2) := by decide +kernel
theorem dX12_storyBy_10 : decode cX12_storyBy 10 = .ok (.ifCond .ne 7, 3) := by decide +kernel
theorem dX12_storyBy_13 : decode cX12_storyBy 13 = .ok (.iconst 0, 1) := by decide +kernel
theorem dX12_storyBy_14 : decode cX12_storyBy 14 = .ok (.goto 14, 3) := by decide +kernel
theorem dX12_storyBy_17 : decode cX12_storyBy 17 = .ok (.iload 4, 2) := by decide +kernel
theorem dX12_storyBy_19 : decode cX12_storyBy 19 = .ok (.aload_n 0, 1) := by decide +kernel
theorem dX12_storyBy_20 : decode cX12_storyBy 20 = .ok (.getfield 22, 3) := by decide +kernel
theorem dX12_storyBy_23 : decode cX12_storyBy 23 = .ok (.iload_n 1, 1) := by decide +kernel
theorem dX12_storyBy_24 : decode cX12_storyBy 24 = .ok (.iaload, 1) := by decide +kernel
theorem dX12_storyBy_25 : decode cX12_storyBy 25 = .ok (.iconst 3, 1) := by decide +kernel
theorem dX12_storyBy_26 : decode cX12_storyBy 26 = .ok (.idiv, 1) := by decide +kernel
theorem dX12_storyBy_27 : decode cX12_storyBy 27 = .ok (.iadd, 1) := by decide +kernel
theorem dX12_storyBy_28 : decode cX12_storyBy 28 = .ok (.istore 5, 2) := by decide +kernel
theorem dX12_storyBy_30 : decode cX12_storyBy 30 = .ok (.iload 4, 2) := by decide +kernel
theorem dX12_storyBy_32 : decode cX12_storyBy 32 = .ok (.iload_n 2, 1) := by decide +kernel
theorem dX12_storyBy_33 : decode cX12_storyBy 33 = .ok (.iload_n 3, 1) := by decide +kernel
theorem dX12_storyBy_34 : decode cX12_storyBy 34 = .ok (.iand, 1) := by decide +kernel
theorem dX12_storyBy_35 : decode cX12_storyBy 35 = .ok (.sipush 4032, 3) := by decide +kernel
theorem dX12_storyBy_38 : decode cX12_storyBy 38 = .ok (.iand, 1) := by decide +kernel
theorem dX12_storyBy_39 : decode cX12_storyBy 39 = .ok (.invokestatic 94, 3) := by decide +kernel
theorem dX12_storyBy_42 : decode cX12_storyBy 42 = .ok (.iadd, 1) := by decide +kernel
theorem dX12_storyBy_43 : decode cX12_storyBy 43 = .ok (.istore 6, 2) := by decide +kernel
theorem dX12_storyBy_45 : decode cX12_storyBy 45 = .ok (.aload_n 0, 1) := by decide +kernel
theorem dX12_storyBy_46 : decode cX12_storyBy 46 = .ok (.getfield 19, 3) := by decide +kernel
theorem dX12_storyBy_49 : decode cX12_storyBy 49 = .ok (.iload_n 1, 1) := by decide +kernel
theorem dX12_storyBy_50 : decode cX12_storyBy 50 = .ok (.iaload, 1) := by decide +kernel
theorem dX12_storyBy_51 : decode cX12_storyBy 51 = .ok (.tableswitch 84 0 7 #[45, 48, 84, 51, 54, 84, 68, 82], 45) := by decide +kernel
theorem dX12_storyBy_96 : decode cX12_storyBy 96 = .ok (.iload 4, 2) := by decide +kernel
theorem dX12_storyBy_98 : decode cX12_storyBy 98 = .ok (.ireturn, 1) := by decide +kernel
theorem dX12_storyBy_99 : decode cX12_storyBy 99 = .ok (.iload 5, 2) := by decide +kernel
theorem dX12_storyBy_101 : decode cX12_storyBy 101 = .ok (.ireturn, 1) := by decide +kernel
theorem dX12_storyBy_102 : decode cX12_storyBy 102 = .ok (.iload 6, 2) := by decide +kernel
theorem dX12_storyBy_104 : decode cX12_storyBy 104 = .ok (.ireturn, 1) := by decide +kernel
theorem dX12_storyBy_105 : decode cX12_storyBy 105 = .ok (.iload 4, 2) := by decide +kernel
theorem dX12_storyBy_107 : decode cX12_storyBy 107 = .ok (.ifCond .ne 7, 3) := by decide +kernel
theorem dX12_storyBy_110 : decode cX12_storyBy 110 = .ok (.iconst 0, 1) := by decide +kernel
theorem dX12_storyBy_111 : decode cX12_storyBy 111 = .ok (.goto 7, 3) := by decide +kernel
theorem dX12_storyBy_114 : decode cX12_storyBy 114 = .ok (.iload 5, 2) := by decide +kernel
theorem dX12_storyBy_116 : decode cX12_storyBy 116 = .ok (.iconst 2, 1) := by decide +kernel
theorem dX12_storyBy_117 : decode cX12_storyBy 117 = .ok (.iadd, 1) := by decide +kernel
theorem dX12_storyBy_118 : decode cX12_storyBy 118 = .ok (.ireturn, 1) := by decide +kernel
theorem dX12_storyBy_119 : decode cX12_storyBy 119 = .ok (.iload 6, 2) := by decide +kernel
theorem dX12_storyBy_121 : decode cX12_storyBy 121 = .ok (.ifCond .ne 7, 3) := by decide +kernel
theorem dX12_storyBy_124 : decode cX12_storyBy 124 = .ok (.iconst 0, 1) := by decide +kernel
theorem dX12_storyBy_125 : decode cX12_storyBy 125 = .ok (.goto 7, 3) := by decide +kernel
theorem dX12_storyBy_128 : decode cX12_storyBy 128 = .ok (.iload 6, 2) := by decide +kernel
theorem dX12_storyBy_130 : decode cX12_storyBy 130 = .ok (.iconst 1, 1) := by decide +kernel
theorem dX12_storyBy_131 : decode cX12_storyBy 131 = .ok (.isub, 1) := by decide +kernel
theorem dX12_storyBy_132 : decode cX12_storyBy 132 = .ok (.ireturn, 1) := by decide +kernel
theorem dX12_storyBy_133 : decode cX12_storyBy 133 = .ok (.iconst 0, 1) := by decide +kernel
theorem dX12_storyBy_134 : decode cX12_storyBy 134 = .ok (.ireturn, 1) := by decide +kernel
theorem dX12_storyBy_135 : decode cX12_storyBy 135 = .ok (.iload 4, 2) := by decide +kernel
theorem dX12_storyBy_137 : decode cX12_storyBy 137 = .ok (.iload_n 2, 1) := by decide +kernel
theorem dX12_storyBy_138 : decode cX12_storyBy 138 = .ok (.iload_n 3, 1) := by decide +kernel
theorem dX12_storyBy_139 : decode cX12_storyBy 139 = .ok (.iconst (-1), 1) := by decide +kernel
theorem dX12_storyBy_140 : decode cX12_storyBy 140 = .ok (.ixor, 1) := by decide +kernel
theorem dX12_storyBy_141 : decode cX12_storyBy 141 = .ok (.iand, 1) := by decide +kernel
theorem dX12_storyBy_142 : decode cX12_storyBy 142 = .ok (.invokestatic 94, 3) := by decide +kernel
theorem dX12_storyBy_145 : decode cX12_storyBy 145 = .ok (.iconst 2, 1) := by decide +kernel
theorem dX12_storyBy_146 : decode cX12_storyBy 146 = .ok (.idiv, 1) := by decide +kernel
theorem dX12_storyBy_147 : decode cX12_storyBy 147 = .ok (.iadd, 1) := by decide +kernel
theorem dX12_storyBy_148 : decode cX12_storyBy 148 = .ok (.ireturn, 1) := by decide +kernel
theorem dX12_storyOf_0 : decode cX12_storyOf 0 = .ok (.aload_n 0, 1) := by decide +kernel
theorem dX12_storyOf_1 : decode cX12_storyOf 1 = .ok (.iload_n 1, 1) := by decide +kernel
theorem dX12_storyOf_2 : decode cX12_storyOf 2 = .ok (.aload_n 0, 1) := by decide +kernel
theorem dX12_storyOf_3 : decode cX12_storyOf 3 = .ok (.getfield 28, 3) := by decide +kernel
theorem dX12_storyOf_6 : decode cX12_storyOf 6 = .ok (.iconst 5, 1) := by decide +kernel
theorem dX12_storyOf_7 : decode cX12_storyOf 7 = .ok (.iload_n 1, 1) := by decide +kernel
theorem dX12_storyOf_8 : decode cX12_storyOf 8 = .ok (.imul, 1) := by decide +kernel
theorem dX12_storyOf_9 : decode cX12_storyOf 9 = .ok (.iload_n 2, 1) := by decide +kernel
theorem dX12_storyOf_10 : decode cX12_storyOf 10 = .ok (.iadd, 1) := by decide +kernel
theorem dX12_storyOf_11 : decode cX12_storyOf 11 = .ok (.iaload, 1) := by decide +kernel
theorem dX12_storyOf_12 : decode cX12_storyOf 12 = .ok (.aload_n 0, 1) := by decide +kernel
theorem dX12_storyOf_13 : decode cX12_storyOf 13 = .ok (.getfield 7, 3) := by decide +kernel
theorem dX12_storyOf_16 : decode cX12_storyOf 16 = .ok (.iload_n 2, 1) := by decide +kernel
theorem dX12_storyOf_17 : decode cX12_storyOf 17 = .ok (.iaload, 1) := by decide +kernel
theorem dX12_storyOf_18 : decode cX12_storyOf 18 = .ok (.invokevirtual 98, 3) := by decide +kernel
theorem dX12_storyOf_21 : decode cX12_storyOf 21 = .ok (.ireturn, 1) := by decide +kernel
theorem dX12_learnsOn_0 : decode cX12_learnsOn 0 = .ok (.aload_n 0, 1) := by decide +kernel
theorem dX12_learnsOn_1 : decode cX12_learnsOn 1 = .ok (.getfield 25, 3) := by decide +kernel
theorem dX12_learnsOn_4 : decode cX12_learnsOn 4 = .ok (.iload_n 1, 1) := by decide +kernel
theorem dX12_learnsOn_5 : decode cX12_learnsOn 5 = .ok (.iaload, 1) := by decide +kernel
theorem dX12_learnsOn_6 : decode cX12_learnsOn 6 = .ok (.bipush 9, 2) := by decide +kernel
theorem dX12_learnsOn_8 : decode cX12_learnsOn 8 = .ok (.if_icmp .ne 5, 3) := by decide +kernel
theorem dX12_learnsOn_11 : decode cX12_learnsOn 11 = .ok (.iconst 0, 1) := by decide +kernel
theorem dX12_learnsOn_12 : decode cX12_learnsOn 12 = .ok (.ireturn, 1) := by decide +kernel
theorem dX12_learnsOn_13 : decode cX12_learnsOn 13 = .ok (.aload_n 0, 1) := by decide +kernel
theorem dX12_learnsOn_14 : decode cX12_learnsOn 14 = .ok (.getfield 19, 3) := by decide +kernel
theorem dX12_learnsOn_17 : decode cX12_learnsOn 17 = .ok (.iload_n 1, 1) := by decide +kernel
theorem dX12_learnsOn_18 : decode cX12_learnsOn 18 = .ok (.iaload, 1) := by decide +kernel
theorem dX12_learnsOn_19 : decode cX12_learnsOn 19 = .ok (.tableswitch 89 0 6 #[41, 43, 55, 57, 43, 78, 87], 41) := by decide +kernel
theorem dX12_learnsOn_60 : decode cX12_learnsOn 60 = .ok (.iconst 1, 1) := by decide +kernel
theorem dX12_learnsOn_61 : decode cX12_learnsOn 61 = .ok (.ireturn, 1) := by decide +kernel
theorem dX12_learnsOn_62 : decode cX12_learnsOn 62 = .ok (.iload_n 2, 1) := by decide +kernel
theorem dX12_learnsOn_63 : decode cX12_learnsOn 63 = .ok (.iconst 2, 1) := by decide +kernel
theorem dX12_learnsOn_64 : decode cX12_learnsOn 64 = .ok (.irem, 1) := by decide +kernel
theorem dX12_learnsOn_65 : decode cX12_learnsOn 65 = .ok (.ifCond .ne 7, 3) := by decide +kernel
theorem dX12_learnsOn_68 : decode cX12_learnsOn 68 = .ok (.iconst 1, 1) := by decide +kernel
theorem dX12_learnsOn_69 : decode cX12_learnsOn 69 = .ok (.goto 4, 3) := by decide +kernel
theorem dX12_learnsOn_72 : decode cX12_learnsOn 72 = .ok (.iconst 0, 1) := by decide +kernel
theorem dX12_learnsOn_73 : decode cX12_learnsOn 73 = .ok (.ireturn, 1) := by decide +kernel
theorem dX12_learnsOn_74 : decode cX12_learnsOn 74 = .ok (.iconst 2, 1) := by decide +kernel
theorem dX12_learnsOn_75 : decode cX12_learnsOn 75 = .ok (.ireturn, 1) := by decide +kernel
theorem dX12_learnsOn_76 : decode cX12_learnsOn 76 = .ok (.aload_n 0, 1) := by decide +kernel
theorem dX12_learnsOn_77 : decode cX12_learnsOn 77 = .ok (.getfield 16, 3) := by decide +kernel
theorem dX12_learnsOn_80 : decode cX12_learnsOn 80 = .ok (.aload_n 0, 1) := by decide +kernel
theorem dX12_learnsOn_81 : decode cX12_learnsOn 81 = .ok (.getfield 25, 3) := by decide +kernel
theorem dX12_learnsOn_84 : decode cX12_learnsOn 84 = .ok (.iload_n 1, 1) := by decide +kernel
theorem dX12_learnsOn_85 : decode cX12_learnsOn 85 = .ok (.iaload, 1) := by decide +kernel
theorem dX12_learnsOn_86 : decode cX12_learnsOn 86 = .ok (.iaload, 1) := by decide +kernel
theorem dX12_learnsOn_87 : decode cX12_learnsOn 87 = .ok (.iload_n 1, 1) := by decide +kernel
theorem dX12_learnsOn_88 : decode cX12_learnsOn 88 = .ok (.if_icmp .ne 7, 3) := by decide +kernel
theorem dX12_learnsOn_91 : decode cX12_learnsOn 91 = .ok (.iconst 1, 1) := by decide +kernel
theorem dX12_learnsOn_92 : decode cX12_learnsOn 92 = .ok (.goto 4, 3) := by decide +kernel
theorem dX12_learnsOn_95 : decode cX12_learnsOn 95 = .ok (.iconst 2, 1) := by decide +kernel
theorem dX12_learnsOn_96 : decode cX12_learnsOn 96 = .ok (.ireturn, 1) := by decide +kernel
theorem dX12_learnsOn_97 : decode cX12_learnsOn 97 = .ok (.aload_n 0, 1) := by decide +kernel
theorem dX12_learnsOn_98 : decode cX12_learnsOn 98 = .ok (.getfield 22, 3) := by decide +kernel
theorem dX12_learnsOn_101 : decode cX12_learnsOn 101 = .ok (.iload_n 1, 1) := by decide +kernel
theorem dX12_learnsOn_102 : decode cX12_learnsOn 102 = .ok (.iaload, 1) := by decide +kernel
theorem dX12_learnsOn_103 : decode cX12_learnsOn 103 = .ok (.iconst 2, 1) := by decide +kernel
theorem dX12_learnsOn_104 : decode cX12_learnsOn 104 = .ok (.idiv, 1) := by decide +kernel
theorem dX12_learnsOn_105 : decode cX12_learnsOn 105 = .ok (.ireturn, 1) := by decide +kernel
theorem dX12_learnsOn_106 : decode cX12_learnsOn 106 = .ok (.iconst 3, 1) := by decide +kernel
theorem dX12_learnsOn_107 : decode cX12_learnsOn 107 = .ok (.ireturn, 1) := by decide +kernel
theorem dX12_learnsOn_108 : decode cX12_learnsOn 108 = .ok (.iconst 0, 1) := by decide +kernel
theorem dX12_learnsOn_109 : decode cX12_learnsOn 109 = .ok (.ireturn, 1) := by decide +kernel
theorem dX12_isOld_0 : decode cX12_isOld 0 = .ok (.aload_n 0, 1) := by decide +kernel
theorem dX12_isOld_1 : decode cX12_isOld 1 = .ok (.getfield 19, 3) := by decide +kernel
theorem dX12_isOld_4 : decode cX12_isOld 4 = .ok (.iload_n 1, 1) := by decide +kernel
theorem dX12_isOld_5 : decode cX12_isOld 5 = .ok (.iaload, 1) := by decide +kernel
theorem dX12_isOld_6 : decode cX12_isOld 6 = .ok (.iconst 1, 1) := by decide +kernel
theorem dX12_isOld_7 : decode cX12_isOld 7 = .ok (.if_icmp .eq 24, 3) := by decide +kernel
theorem dX12_isOld_10 : decode cX12_isOld 10 = .ok (.aload_n 0, 1) := by decide +kernel
theorem dX12_isOld_11 : decode cX12_isOld 11 = .ok (.getfield 19, 3) := by decide +kernel
theorem dX12_isOld_14 : decode cX12_isOld 14 = .ok (.iload_n 1, 1) := by decide +kernel
theorem dX12_isOld_15 : decode cX12_isOld 15 = .ok (.iaload, 1) := by decide +kernel
theorem dX12_isOld_16 : decode cX12_isOld 16 = .ok (.iconst 4, 1) := by decide +kernel
theorem dX12_isOld_17 : decode cX12_isOld 17 = .ok (.if_icmp .eq 14, 3) := by decide +kernel
theorem dX12_isOld_20 : decode cX12_isOld 20 = .ok (.aload_n 0, 1) := by decide +kernel
theorem dX12_isOld_21 : decode cX12_isOld 21 = .ok (.getfield 19, 3) := by decide +kernel
theorem dX12_isOld_24 : decode cX12_isOld 24 = .ok (.iload_n 1, 1) := by decide +kernel
theorem dX12_isOld_25 : decode cX12_isOld 25 = .ok (.iaload, 1) := by decide +kernel
theorem dX12_isOld_26 : decode cX12_isOld 26 = .ok (.bipush 7, 2) := by decide +kernel
theorem dX12_isOld_28 : decode cX12_isOld 28 = .ok (.if_icmp .ne 7, 3) := by decide +kernel
theorem dX12_isOld_31 : decode cX12_isOld 31 = .ok (.iconst 1, 1) := by decide +kernel
theorem dX12_isOld_32 : decode cX12_isOld 32 = .ok (.goto 4, 3) := by decide +kernel
theorem dX12_isOld_35 : decode cX12_isOld 35 = .ok (.iconst 0, 1) := by decide +kernel
theorem dX12_isOld_36 : decode cX12_isOld 36 = .ok (.ireturn, 1) := by decide +kernel
theorem dX12_isLiar_0 : decode cX12_isLiar 0 = .ok (.aload_n 0, 1) := by decide +kernel
theorem dX12_isLiar_1 : decode cX12_isLiar 1 = .ok (.getfield 19, 3) := by decide +kernel
theorem dX12_isLiar_4 : decode cX12_isLiar 4 = .ok (.iload_n 1, 1) := by decide +kernel
theorem dX12_isLiar_5 : decode cX12_isLiar 5 = .ok (.iaload, 1) := by decide +kernel
theorem dX12_isLiar_6 : decode cX12_isLiar 6 = .ok (.iconst 2, 1) := by decide +kernel
theorem dX12_isLiar_7 : decode cX12_isLiar 7 = .ok (.if_icmp .eq 13, 3) := by decide +kernel
theorem dX12_isLiar_10 : decode cX12_isLiar 10 = .ok (.aload_n 0, 1) := by decide +kernel
theorem dX12_isLiar_11 : decode cX12_isLiar 11 = .ok (.getfield 19, 3) := by decide +kernel
theorem dX12_isLiar_14 : decode cX12_isLiar 14 = .ok (.iload_n 1, 1) := by decide +kernel
theorem dX12_isLiar_15 : decode cX12_isLiar 15 = .ok (.iaload, 1) := by decide +kernel
theorem dX12_isLiar_16 : decode cX12_isLiar 16 = .ok (.iconst 5, 1) := by decide +kernel
theorem dX12_isLiar_17 : decode cX12_isLiar 17 = .ok (.if_icmp .ne 7, 3) := by decide +kernel
theorem dX12_isLiar_20 : decode cX12_isLiar 20 = .ok (.iconst 1, 1) := by decide +kernel
theorem dX12_isLiar_21 : decode cX12_isLiar 21 = .ok (.goto 4, 3) := by decide +kernel
theorem dX12_isLiar_24 : decode cX12_isLiar 24 = .ok (.iconst 0, 1) := by decide +kernel
theorem dX12_isLiar_25 : decode cX12_isLiar 25 = .ok (.ireturn, 1) := by decide +kernel
theorem dX12_learnOne_0 : decode cX12_learnOne 0 = .ok (.iconst 5, 1) := by decide +kernel
theorem dX12_learnOne_1 : decode cX12_learnOne 1 = .ok (.iload_n 1, 1) := by decide +kernel
theorem dX12_learnOne_2 : decode cX12_learnOne 2 = .ok (.imul, 1) := by decide +kernel
theorem dX12_learnOne_3 : decode cX12_learnOne 3 = .ok (.aload_n 0, 1) := by decide +kernel
theorem dX12_learnOne_4 : decode cX12_learnOne 4 = .ok (.getfield 25, 3) := by decide +kernel
theorem dX12_learnOne_7 : decode cX12_learnOne 7 = .ok (.iload_n 1, 1) := by decide +kernel
theorem dX12_learnOne_8 : decode cX12_learnOne 8 = .ok (.iaload, 1) := by decide +kernel
theorem dX12_learnOne_9 : decode cX12_learnOne 9 = .ok (.iadd, 1) := by decide +kernel
theorem dX12_learnOne_10 : decode cX12_learnOne 10 = .ok (.istore_n 2, 1) := by decide +kernel
theorem dX12_learnOne_11 : decode cX12_learnOne 11 = .ok (.aload_n 0, 1) := by decide +kernel
theorem dX12_learnOne_12 : decode cX12_learnOne 12 = .ok (.iload_n 1, 1) := by decide +kernel
theorem dX12_learnOne_13 : decode cX12_learnOne 13 = .ok (.invokevirtual 102, 3) := by decide +kernel
theorem dX12_learnOne_16 : decode cX12_learnOne 16 = .ok (.ifCond .eq 9, 3) := by decide +kernel
theorem dX12_learnOne_19 : decode cX12_learnOne 19 = .ok (.sipush 4095, 3) := by decide +kernel
theorem dX12_learnOne_22 : decode cX12_learnOne 22 = .ok (.goto 14, 3) := by decide +kernel
theorem dX12_learnOne_25 : decode cX12_learnOne 25 = .ok (.aload_n 0, 1) := by decide +kernel
theorem dX12_learnOne_26 : decode cX12_learnOne 26 = .ok (.getfield 7, 3) := by decide +kernel
theorem dX12_learnOne_29 : decode cX12_learnOne 29 = .ok (.aload_n 0, 1) := by decide +kernel
theorem dX12_learnOne_30 : decode cX12_learnOne 30 = .ok (.getfield 25, 3) := by decide +kernel
theorem dX12_learnOne_33 : decode cX12_learnOne 33 = .ok (.iload_n 1, 1) := by decide +kernel
theorem dX12_learnOne_34 : decode cX12_learnOne 34 = .ok (.iaload, 1) := by decide +kernel
theorem dX12_learnOne_35 : decode cX12_learnOne 35 = .ok (.iaload, 1) := by decide +kernel
theorem dX12_learnOne_36 : decode cX12_learnOne 36 = .ok (.aload_n 0, 1) := by decide +kernel
theorem dX12_learnOne_37 : decode cX12_learnOne 37 = .ok (.getfield 28, 3) := by decide +kernel
theorem dX12_learnOne_40 : decode cX12_learnOne 40 = .ok (.iload_n 2, 1) := by decide +kernel
theorem dX12_learnOne_41 : decode cX12_learnOne 41 = .ok (.iaload, 1) := by decide +kernel
theorem dX12_learnOne_42 : decode cX12_learnOne 42 = .ok (.iconst (-1), 1) := by decide +kernel
theorem dX12_learnOne_43 : decode cX12_learnOne 43 = .ok (.ixor, 1) := by decide +kernel
theorem dX12_learnOne_44 : decode cX12_learnOne 44 = .ok (.iand, 1) := by decide +kernel
theorem dX12_learnOne_45 : decode cX12_learnOne 45 = .ok (.istore_n 3, 1) := by decide +kernel
theorem dX12_learnOne_46 : decode cX12_learnOne 46 = .ok (.aload_n 0, 1) := by decide +kernel
theorem dX12_learnOne_47 : decode cX12_learnOne 47 = .ok (.getfield 28, 3) := by decide +kernel
theorem dX12_learnOne_50 : decode cX12_learnOne 50 = .ok (.iload_n 2, 1) := by decide +kernel
theorem dX12_learnOne_51 : decode cX12_learnOne 51 = .ok (.dup2, 1) := by decide +kernel
theorem dX12_learnOne_52 : decode cX12_learnOne 52 = .ok (.iaload, 1) := by decide +kernel
theorem dX12_learnOne_53 : decode cX12_learnOne 53 = .ok (.iload_n 3, 1) := by decide +kernel
theorem dX12_learnOne_54 : decode cX12_learnOne 54 = .ok (.iload_n 3, 1) := by decide +kernel
theorem dX12_learnOne_55 : decode cX12_learnOne 55 = .ok (.ineg, 1) := by decide +kernel
theorem dX12_learnOne_56 : decode cX12_learnOne 56 = .ok (.iand, 1) := by decide +kernel
theorem dX12_learnOne_57 : decode cX12_learnOne 57 = .ok (.ior, 1) := by decide +kernel
theorem dX12_learnOne_58 : decode cX12_learnOne 58 = .ok (.iastore, 1) := by decide +kernel
theorem dX12_learnOne_59 : decode cX12_learnOne 59 = .ok (.return_, 1) := by decide +kernel
theorem dX12_withoutGreatest_0 : decode cX12_withoutGreatest 0 = .ok (.bipush 11, 2) := by decide +kernel
theorem dX12_withoutGreatest_2 : decode cX12_withoutGreatest 2 = .ok (.istore_n 1, 1) := by decide +kernel
theorem dX12_withoutGreatest_3 : decode cX12_withoutGreatest 3 = .ok (.iload_n 1, 1) := by decide +kernel
theorem dX12_withoutGreatest_4 : decode cX12_withoutGreatest 4 = .ok (.ifCond .lt 17, 3) := by decide +kernel
theorem dX12_withoutGreatest_7 : decode cX12_withoutGreatest 7 = .ok (.iload_n 0, 1) := by decide +kernel
theorem dX12_withoutGreatest_8 : decode cX12_withoutGreatest 8 = .ok (.iload_n 1, 1) := by decide +kernel
theorem dX12_withoutGreatest_9 : decode cX12_withoutGreatest 9 = .ok (.invokestatic 105, 3) := by decide +kernel
theorem dX12_withoutGreatest_12 : decode cX12_withoutGreatest 12 = .ok (.ifCond .ne 9, 3) := by decide +kernel
theorem dX12_withoutGreatest_15 : decode cX12_withoutGreatest 15 = .ok (.iinc 1 (-1), 3) := by decide +kernel
theorem dX12_withoutGreatest_18 : decode cX12_withoutGreatest 18 = .ok (.goto (-15), 3) := by decide +kernel
theorem dX12_withoutGreatest_21 : decode cX12_withoutGreatest 21 = .ok (.iload_n 1, 1) := by decide +kernel
theorem dX12_withoutGreatest_22 : decode cX12_withoutGreatest 22 = .ok (.ifCond .ge 7, 3) := by decide +kernel
theorem dX12_withoutGreatest_25 : decode cX12_withoutGreatest 25 = .ok (.iconst 0, 1) := by decide +kernel
theorem dX12_withoutGreatest_26 : decode cX12_withoutGreatest 26 = .ok (.goto 10, 3) := by decide +kernel
theorem dX12_withoutGreatest_29 : decode cX12_withoutGreatest 29 = .ok (.iload_n 0, 1) := by decide +kernel
theorem dX12_withoutGreatest_30 : decode cX12_withoutGreatest 30 = .ok (.iconst 1, 1) := by decide +kernel
theorem dX12_withoutGreatest_31 : decode cX12_withoutGreatest 31 = .ok (.iload_n 1, 1) := by decide +kernel
theorem dX12_withoutGreatest_32 : decode cX12_withoutGreatest 32 = .ok (.ishl, 1) := by decide +kernel
theorem dX12_withoutGreatest_33 : decode cX12_withoutGreatest 33 = .ok (.iconst (-1), 1) := by decide +kernel
theorem dX12_withoutGreatest_34 : decode cX12_withoutGreatest 34 = .ok (.ixor, 1) := by decide +kernel
theorem dX12_withoutGreatest_35 : decode cX12_withoutGreatest 35 = .ok (.iand, 1) := by decide +kernel
theorem dX12_withoutGreatest_36 : decode cX12_withoutGreatest 36 = .ok (.ireturn, 1) := by decide +kernel
theorem dX12_goesTo_0 : decode cX12_goesTo 0 = .ok (.bipush 9, 2) := by decide +kernel
theorem dX12_goesTo_2 : decode cX12_goesTo 2 = .ok (.istore_n 2, 1) := by decide +kernel
theorem dX12_goesTo_3 : decode cX12_goesTo 3 = .ok (.aload_n 0, 1) := by decide +kernel
theorem dX12_goesTo_4 : decode cX12_goesTo 4 = .ok (.getfield 16, 3) := by decide +kernel
theorem dX12_goesTo_7 : decode cX12_goesTo 7 = .ok (.iload_n 1, 1) := by decide +kernel
theorem dX12_goesTo_8 : decode cX12_goesTo 8 = .ok (.iaload, 1) := by decide +kernel
theorem dX12_goesTo_9 : decode cX12_goesTo 9 = .ok (.bipush 9, 2) := by decide +kernel
theorem dX12_goesTo_11 : decode cX12_goesTo 11 = .ok (.if_icmp .ne 7, 3) := by decide +kernel
theorem dX12_goesTo_14 : decode cX12_goesTo 14 = .ok (.iconst 0, 1) := by decide +kernel
theorem dX12_goesTo_15 : decode cX12_goesTo 15 = .ok (.goto 14, 3) := by decide +kernel
theorem dX12_goesTo_18 : decode cX12_goesTo 18 = .ok (.aload_n 0, 1) := by decide +kernel
theorem dX12_goesTo_19 : decode cX12_goesTo 19 = .ok (.aload_n 0, 1) := by decide +kernel
theorem dX12_goesTo_20 : decode cX12_goesTo 20 = .ok (.getfield 16, 3) := by decide +kernel
theorem dX12_goesTo_23 : decode cX12_goesTo 23 = .ok (.iload_n 1, 1) := by decide +kernel
theorem dX12_goesTo_24 : decode cX12_goesTo 24 = .ok (.iaload, 1) := by decide +kernel
theorem dX12_goesTo_25 : decode cX12_goesTo 25 = .ok (.iload_n 1, 1) := by decide +kernel
theorem dX12_goesTo_26 : decode cX12_goesTo 26 = .ok (.invokevirtual 109, 3) := by decide +kernel
theorem dX12_goesTo_29 : decode cX12_goesTo 29 = .ok (.istore_n 3, 1) := by decide +kernel
theorem dX12_goesTo_30 : decode cX12_goesTo 30 = .ok (.iconst 0, 1) := by decide +kernel
theorem dX12_goesTo_31 : decode cX12_goesTo 31 = .ok (.istore 4, 2) := by decide +kernel
theorem dX12_goesTo_33 : decode cX12_goesTo 33 = .ok (.iload 4, 2) := by decide +kernel
theorem dX12_goesTo_35 : decode cX12_goesTo 35 = .ok (.aload_n 0, 1) := by decide +kernel
theorem dX12_goesTo_36 : decode cX12_goesTo 36 = .ok (.getfield 87, 3) := by decide +kernel
theorem dX12_goesTo_39 : decode cX12_goesTo 39 = .ok (.if_icmp .ge 42, 3) := by decide +kernel
theorem dX12_goesTo_42 : decode cX12_goesTo 42 = .ok (.iload 4, 2) := by decide +kernel
theorem dX12_goesTo_44 : decode cX12_goesTo 44 = .ok (.aload_n 0, 1) := by decide +kernel
theorem dX12_goesTo_45 : decode cX12_goesTo 45 = .ok (.getfield 16, 3) := by decide +kernel
theorem dX12_goesTo_48 : decode cX12_goesTo 48 = .ok (.iload_n 1, 1) := by decide +kernel
theorem dX12_goesTo_49 : decode cX12_goesTo 49 = .ok (.iaload, 1) := by decide +kernel
theorem dX12_goesTo_50 : decode cX12_goesTo 50 = .ok (.if_icmp .eq 25, 3) := by decide +kernel
theorem dX12_goesTo_53 : decode cX12_goesTo 53 = .ok (.aload_n 0, 1) := by decide +kernel
theorem dX12_goesTo_54 : decode cX12_goesTo 54 = .ok (.iload 4, 2) := by decide +kernel
theorem dX12_goesTo_56 : decode cX12_goesTo 56 = .ok (.iload_n 1, 1) := by decide +kernel
theorem dX12_goesTo_57 : decode cX12_goesTo 57 = .ok (.invokevirtual 109, 3) := by decide +kernel
theorem dX12_goesTo_60 : decode cX12_goesTo 60 = .ok (.iload_n 3, 1) := by decide +kernel
theorem dX12_goesTo_61 : decode cX12_goesTo 61 = .ok (.if_icmp .le 14, 3) := by decide +kernel
theorem dX12_goesTo_64 : decode cX12_goesTo 64 = .ok (.iload 4, 2) := by decide +kernel
theorem dX12_goesTo_66 : decode cX12_goesTo 66 = .ok (.istore_n 2, 1) := by decide +kernel
theorem dX12_goesTo_67 : decode cX12_goesTo 67 = .ok (.aload_n 0, 1) := by decide +kernel
theorem dX12_goesTo_68 : decode cX12_goesTo 68 = .ok (.iload 4, 2) := by decide +kernel
theorem dX12_goesTo_70 : decode cX12_goesTo 70 = .ok (.iload_n 1, 1) := by decide +kernel
theorem dX12_goesTo_71 : decode cX12_goesTo 71 = .ok (.invokevirtual 109, 3) := by decide +kernel
theorem dX12_goesTo_74 : decode cX12_goesTo 74 = .ok (.istore_n 3, 1) := by decide +kernel
theorem dX12_goesTo_75 : decode cX12_goesTo 75 = .ok (.iinc 4 1, 3) := by decide +kernel
theorem dX12_goesTo_78 : decode cX12_goesTo 78 = .ok (.goto (-45), 3) := by decide +kernel
theorem dX12_goesTo_81 : decode cX12_goesTo 81 = .ok (.aload_n 0, 1) := by decide +kernel
theorem dX12_goesTo_82 : decode cX12_goesTo 82 = .ok (.getfield 16, 3) := by decide +kernel
theorem dX12_goesTo_85 : decode cX12_goesTo 85 = .ok (.iload_n 1, 1) := by decide +kernel
theorem dX12_goesTo_86 : decode cX12_goesTo 86 = .ok (.iload_n 2, 1) := by decide +kernel
theorem dX12_goesTo_87 : decode cX12_goesTo 87 = .ok (.bipush 9, 2) := by decide +kernel
theorem dX12_goesTo_89 : decode cX12_goesTo 89 = .ok (.if_icmp .ne 12, 3) := by decide +kernel
theorem dX12_goesTo_92 : decode cX12_goesTo 92 = .ok (.aload_n 0, 1) := by decide +kernel
theorem dX12_goesTo_93 : decode cX12_goesTo 93 = .ok (.getfield 16, 3) := by decide +kernel
theorem dX12_goesTo_96 : decode cX12_goesTo 96 = .ok (.iload_n 1, 1) := by decide +kernel
theorem dX12_goesTo_97 : decode cX12_goesTo 97 = .ok (.iaload, 1) := by decide +kernel
theorem dX12_goesTo_98 : decode cX12_goesTo 98 = .ok (.goto 4, 3) := by decide +kernel
theorem dX12_goesTo_101 : decode cX12_goesTo 101 = .ok (.iload_n 2, 1) := by decide +kernel
theorem dX12_goesTo_102 : decode cX12_goesTo 102 = .ok (.iastore, 1) := by decide +kernel
theorem dX12_goesTo_103 : decode cX12_goesTo 103 = .ok (.return_, 1) := by decide +kernel
theorem dX12_dayOn_0 : decode cX12_dayOn 0 = .ok (.aload_n 0, 1) := by decide +kernel
theorem dX12_dayOn_1 : decode cX12_dayOn 1 = .ok (.dup, 1) := by decide +kernel
theorem dX12_dayOn_2 : decode cX12_dayOn 2 = .ok (.getfield 113, 3) := by decide +kernel
theorem dX12_dayOn_5 : decode cX12_dayOn 5 = .ok (.iconst 1, 1) := by decide +kernel
theorem dX12_dayOn_6 : decode cX12_dayOn 6 = .ok (.iadd, 1) := by decide +kernel
theorem dX12_dayOn_7 : decode cX12_dayOn 7 = .ok (.putfield 113, 3) := by decide +kernel
theorem dX12_dayOn_10 : decode cX12_dayOn 10 = .ok (.iconst 0, 1) := by decide +kernel
theorem dX12_dayOn_11 : decode cX12_dayOn 11 = .ok (.istore_n 1, 1) := by decide +kernel
theorem dX12_dayOn_12 : decode cX12_dayOn 12 = .ok (.iload_n 1, 1) := by decide +kernel
theorem dX12_dayOn_13 : decode cX12_dayOn 13 = .ok (.aload_n 0, 1) := by decide +kernel
theorem dX12_dayOn_14 : decode cX12_dayOn 14 = .ok (.getfield 87, 3) := by decide +kernel
theorem dX12_dayOn_17 : decode cX12_dayOn 17 = .ok (.if_icmp .ge 91, 3) := by decide +kernel
theorem dX12_dayOn_20 : decode cX12_dayOn 20 = .ok (.aload_n 0, 1) := by decide +kernel
theorem dX12_dayOn_21 : decode cX12_dayOn 21 = .ok (.iload_n 1, 1) := by decide +kernel
theorem dX12_dayOn_22 : decode cX12_dayOn 22 = .ok (.aload_n 0, 1) := by decide +kernel
theorem dX12_dayOn_23 : decode cX12_dayOn 23 = .ok (.getfield 113, 3) := by decide +kernel
theorem dX12_dayOn_26 : decode cX12_dayOn 26 = .ok (.invokevirtual 116, 3) := by decide +kernel
theorem dX12_dayOn_29 : decode cX12_dayOn 29 = .ok (.istore_n 2, 1) := by decide +kernel
theorem dX12_dayOn_30 : decode cX12_dayOn 30 = .ok (.iconst 0, 1) := by decide +kernel
theorem dX12_dayOn_31 : decode cX12_dayOn 31 = .ok (.istore_n 3, 1) := by decide +kernel
theorem dX12_dayOn_32 : decode cX12_dayOn 32 = .ok (.iload_n 3, 1) := by decide +kernel
theorem dX12_dayOn_33 : decode cX12_dayOn 33 = .ok (.iload_n 2, 1) := by decide +kernel
theorem dX12_dayOn_34 : decode cX12_dayOn 34 = .ok (.if_icmp .ge 14, 3) := by decide +kernel
theorem dX12_dayOn_37 : decode cX12_dayOn 37 = .ok (.aload_n 0, 1) := by decide +kernel
theorem dX12_dayOn_38 : decode cX12_dayOn 38 = .ok (.iload_n 1, 1) := by decide +kernel
theorem dX12_dayOn_39 : decode cX12_dayOn 39 = .ok (.invokevirtual 119, 3) := by decide +kernel
theorem dX12_dayOn_42 : decode cX12_dayOn 42 = .ok (.iinc 3 1, 3) := by decide +kernel
theorem dX12_dayOn_45 : decode cX12_dayOn 45 = .ok (.goto (-13), 3) := by decide +kernel
theorem dX12_dayOn_48 : decode cX12_dayOn 48 = .ok (.iconst 0, 1) := by decide +kernel
theorem dX12_dayOn_49 : decode cX12_dayOn 49 = .ok (.istore_n 3, 1) := by decide +kernel
theorem dX12_dayOn_50 : decode cX12_dayOn 50 = .ok (.iload_n 3, 1) := by decide +kernel
theorem dX12_dayOn_51 : decode cX12_dayOn 51 = .ok (.iconst 5, 1) := by decide +kernel
theorem dX12_dayOn_52 : decode cX12_dayOn 52 = .ok (.if_icmp .ge 50, 3) := by decide +kernel
theorem dX12_dayOn_55 : decode cX12_dayOn 55 = .ok (.aload_n 0, 1) := by decide +kernel
theorem dX12_dayOn_56 : decode cX12_dayOn 56 = .ok (.iload_n 1, 1) := by decide +kernel
theorem dX12_dayOn_57 : decode cX12_dayOn 57 = .ok (.invokevirtual 123, 3) := by decide +kernel
theorem dX12_dayOn_60 : decode cX12_dayOn 60 = .ok (.ifCond .eq 42, 3) := by decide +kernel
theorem dX12_dayOn_63 : decode cX12_dayOn 63 = .ok (.aload_n 0, 1) := by decide +kernel
theorem dX12_dayOn_64 : decode cX12_dayOn 64 = .ok (.getfield 113, 3) := by decide +kernel
theorem dX12_dayOn_67 : decode cX12_dayOn 67 = .ok (.bipush 7, 2) := by decide +kernel
theorem dX12_dayOn_69 : decode cX12_dayOn 69 = .ok (.irem, 1) := by decide +kernel
theorem dX12_dayOn_70 : decode cX12_dayOn 70 = .ok (.ifCond .ne 32, 3) := by decide +kernel
theorem dX12_dayOn_73 : decode cX12_dayOn 73 = .ok (.aload_n 0, 1) := by decide +kernel
theorem dX12_dayOn_74 : decode cX12_dayOn 74 = .ok (.getfield 28, 3) := by decide +kernel
theorem dX12_dayOn_77 : decode cX12_dayOn 77 = .ok (.iconst 5, 1) := by decide +kernel
theorem dX12_dayOn_78 : decode cX12_dayOn 78 = .ok (.iload_n 1, 1) := by decide +kernel
theorem dX12_dayOn_79 : decode cX12_dayOn 79 = .ok (.imul, 1) := by decide +kernel
theorem dX12_dayOn_80 : decode cX12_dayOn 80 = .ok (.iload_n 3, 1) := by decide +kernel
theorem dX12_dayOn_81 : decode cX12_dayOn 81 = .ok (.iadd, 1) := by decide +kernel
theorem dX12_dayOn_82 : decode cX12_dayOn 82 = .ok (.aload_n 0, 1) := by decide +kernel
theorem dX12_dayOn_83 : decode cX12_dayOn 83 = .ok (.getfield 28, 3) := by decide +kernel
theorem dX12_dayOn_86 : decode cX12_dayOn 86 = .ok (.iconst 5, 1) := by decide +kernel
theorem dX12_dayOn_87 : decode cX12_dayOn 87 = .ok (.iload_n 1, 1) := by decide +kernel
theorem dX12_dayOn_88 : decode cX12_dayOn 88 = .ok (.imul, 1) := by decide +kernel
theorem dX12_dayOn_89 : decode cX12_dayOn 89 = .ok (.iload_n 3, 1) := by decide +kernel
theorem dX12_dayOn_90 : decode cX12_dayOn 90 = .ok (.iadd, 1) := by decide +kernel
theorem dX12_dayOn_91 : decode cX12_dayOn 91 = .ok (.iaload, 1) := by decide +kernel
theorem dX12_dayOn_92 : decode cX12_dayOn 92 = .ok (.invokestatic 126, 3) := by decide +kernel
theorem dX12_dayOn_95 : decode cX12_dayOn 95 = .ok (.iastore, 1) := by decide +kernel
theorem dX12_dayOn_96 : decode cX12_dayOn 96 = .ok (.iinc 3 1, 3) := by decide +kernel
theorem dX12_dayOn_99 : decode cX12_dayOn 99 = .ok (.goto (-49), 3) := by decide +kernel
theorem dX12_dayOn_102 : decode cX12_dayOn 102 = .ok (.iinc 1 1, 3) := by decide +kernel
theorem dX12_dayOn_105 : decode cX12_dayOn 105 = .ok (.goto (-93), 3) := by decide +kernel
theorem dX12_dayOn_108 : decode cX12_dayOn 108 = .ok (.iconst 0, 1) := by decide +kernel
theorem dX12_dayOn_109 : decode cX12_dayOn 109 = .ok (.istore_n 1, 1) := by decide +kernel
theorem dX12_dayOn_110 : decode cX12_dayOn 110 = .ok (.iload_n 1, 1) := by decide +kernel
theorem dX12_dayOn_111 : decode cX12_dayOn 111 = .ok (.iconst 5, 1) := by decide +kernel
theorem dX12_dayOn_112 : decode cX12_dayOn 112 = .ok (.if_icmp .ge 14, 3) := by decide +kernel
theorem dX12_dayOn_115 : decode cX12_dayOn 115 = .ok (.aload_n 0, 1) := by decide +kernel
theorem dX12_dayOn_116 : decode cX12_dayOn 116 = .ok (.iload_n 1, 1) := by decide +kernel
theorem dX12_dayOn_117 : decode cX12_dayOn 117 = .ok (.invokevirtual 129, 3) := by decide +kernel
theorem dX12_dayOn_120 : decode cX12_dayOn 120 = .ok (.iinc 1 1, 3) := by decide +kernel
theorem dX12_dayOn_123 : decode cX12_dayOn 123 = .ok (.goto (-13), 3) := by decide +kernel
theorem dX12_dayOn_126 : decode cX12_dayOn 126 = .ok (.return_, 1) := by decide +kernel
theorem dX12_goDays_0 : decode cX12_goDays 0 = .ok (.iconst 0, 1) := by decide +kernel
theorem dX12_goDays_1 : decode cX12_goDays 1 = .ok (.istore_n 2, 1) := by decide +kernel
theorem dX12_goDays_2 : decode cX12_goDays 2 = .ok (.iload_n 2, 1) := by decide +kernel
theorem dX12_goDays_3 : decode cX12_goDays 3 = .ok (.iload_n 1, 1) := by decide +kernel
theorem dX12_goDays_4 : decode cX12_goDays 4 = .ok (.if_icmp .ge 13, 3) := by decide +kernel
theorem dX12_goDays_7 : decode cX12_goDays 7 = .ok (.aload_n 0, 1) := by decide +kernel
theorem dX12_goDays_8 : decode cX12_goDays 8 = .ok (.invokevirtual 132, 3) := by decide +kernel
theorem dX12_goDays_11 : decode cX12_goDays 11 = .ok (.iinc 2 1, 3) := by decide +kernel
theorem dX12_goDays_14 : decode cX12_goDays 14 = .ok (.goto (-12), 3) := by decide +kernel
theorem dX12_goDays_17 : decode cX12_goDays 17 = .ok (.return_, 1) := by decide +kernel
theorem dX12_ownedBy_0 : decode cX12_ownedBy 0 = .ok (.iconst 0, 1) := by decide +kernel
theorem dX12_ownedBy_1 : decode cX12_ownedBy 1 = .ok (.istore_n 2, 1) := by decide +kernel
theorem dX12_ownedBy_2 : decode cX12_ownedBy 2 = .ok (.iconst 0, 1) := by decide +kernel
theorem dX12_ownedBy_3 : decode cX12_ownedBy 3 = .ok (.istore_n 3, 1) := by decide +kernel
theorem dX12_ownedBy_4 : decode cX12_ownedBy 4 = .ok (.iload_n 3, 1) := by decide +kernel
theorem dX12_ownedBy_5 : decode cX12_ownedBy 5 = .ok (.iconst 5, 1) := by decide +kernel
theorem dX12_ownedBy_6 : decode cX12_ownedBy 6 = .ok (.if_icmp .ge 29, 3) := by decide +kernel
theorem dX12_ownedBy_9 : decode cX12_ownedBy 9 = .ok (.iload_n 2, 1) := by decide +kernel
theorem dX12_ownedBy_10 : decode cX12_ownedBy 10 = .ok (.aload_n 0, 1) := by decide +kernel
theorem dX12_ownedBy_11 : decode cX12_ownedBy 11 = .ok (.getfield 16, 3) := by decide +kernel
theorem dX12_ownedBy_14 : decode cX12_ownedBy 14 = .ok (.iload_n 3, 1) := by decide +kernel
theorem dX12_ownedBy_15 : decode cX12_ownedBy 15 = .ok (.iaload, 1) := by decide +kernel
theorem dX12_ownedBy_16 : decode cX12_ownedBy 16 = .ok (.iload_n 1, 1) := by decide +kernel
theorem dX12_ownedBy_17 : decode cX12_ownedBy 17 = .ok (.if_icmp .ne 9, 3) := by decide +kernel
theorem dX12_ownedBy_20 : decode cX12_ownedBy 20 = .ok (.iconst 1, 1) := by decide +kernel
theorem dX12_ownedBy_21 : decode cX12_ownedBy 21 = .ok (.iload_n 3, 1) := by decide +kernel
theorem dX12_ownedBy_22 : decode cX12_ownedBy 22 = .ok (.ishl, 1) := by decide +kernel
theorem dX12_ownedBy_23 : decode cX12_ownedBy 23 = .ok (.goto 4, 3) := by decide +kernel
theorem dX12_ownedBy_26 : decode cX12_ownedBy 26 = .ok (.iconst 0, 1) := by decide +kernel
theorem dX12_ownedBy_27 : decode cX12_ownedBy 27 = .ok (.ior, 1) := by decide +kernel
theorem dX12_ownedBy_28 : decode cX12_ownedBy 28 = .ok (.istore_n 2, 1) := by decide +kernel
theorem dX12_ownedBy_29 : decode cX12_ownedBy 29 = .ok (.iinc 3 1, 3) := by decide +kernel
theorem dX12_ownedBy_32 : decode cX12_ownedBy 32 = .ok (.goto (-28), 3) := by decide +kernel
theorem dX12_ownedBy_35 : decode cX12_ownedBy 35 = .ok (.iload_n 2, 1) := by decide +kernel
theorem dX12_ownedBy_36 : decode cX12_ownedBy 36 = .ok (.ireturn, 1) := by decide +kernel
theorem dX12_worthOf_0 : decode cX12_worthOf 0 = .ok (.iconst 0, 1) := by decide +kernel
theorem dX12_worthOf_1 : decode cX12_worthOf 1 = .ok (.istore_n 2, 1) := by decide +kernel
theorem dX12_worthOf_2 : decode cX12_worthOf 2 = .ok (.iconst 0, 1) := by decide +kernel
theorem dX12_worthOf_3 : decode cX12_worthOf 3 = .ok (.istore_n 3, 1) := by decide +kernel
theorem dX12_worthOf_4 : decode cX12_worthOf 4 = .ok (.iload_n 3, 1) := by decide +kernel
theorem dX12_worthOf_5 : decode cX12_worthOf 5 = .ok (.iconst 5, 1) := by decide +kernel
theorem dX12_worthOf_6 : decode cX12_worthOf 6 = .ok (.if_icmp .ge 32, 3) := by decide +kernel
theorem dX12_worthOf_9 : decode cX12_worthOf 9 = .ok (.iload_n 2, 1) := by decide +kernel
theorem dX12_worthOf_10 : decode cX12_worthOf 10 = .ok (.aload_n 0, 1) := by decide +kernel
theorem dX12_worthOf_11 : decode cX12_worthOf 11 = .ok (.getfield 16, 3) := by decide +kernel
theorem dX12_worthOf_14 : decode cX12_worthOf 14 = .ok (.iload_n 3, 1) := by decide +kernel
theorem dX12_worthOf_15 : decode cX12_worthOf 15 = .ok (.iaload, 1) := by decide +kernel
theorem dX12_worthOf_16 : decode cX12_worthOf 16 = .ok (.iload_n 1, 1) := by decide +kernel
theorem dX12_worthOf_17 : decode cX12_worthOf 17 = .ok (.if_icmp .ne 12, 3) := by decide +kernel
theorem dX12_worthOf_20 : decode cX12_worthOf 20 = .ok (.aload_n 0, 1) := by decide +kernel
theorem dX12_worthOf_21 : decode cX12_worthOf 21 = .ok (.getfield 13, 3) := by decide +kernel
theorem dX12_worthOf_24 : decode cX12_worthOf 24 = .ok (.iload_n 3, 1) := by decide +kernel
theorem dX12_worthOf_25 : decode cX12_worthOf 25 = .ok (.iaload, 1) := by decide +kernel
theorem dX12_worthOf_26 : decode cX12_worthOf 26 = .ok (.goto 4, 3) := by decide +kernel
theorem dX12_worthOf_29 : decode cX12_worthOf 29 = .ok (.iconst 0, 1) := by decide +kernel
theorem dX12_worthOf_30 : decode cX12_worthOf 30 = .ok (.iadd, 1) := by decide +kernel
theorem dX12_worthOf_31 : decode cX12_worthOf 31 = .ok (.istore_n 2, 1) := by decide +kernel
theorem dX12_worthOf_32 : decode cX12_worthOf 32 = .ok (.iinc 3 1, 3) := by decide +kernel
theorem dX12_worthOf_35 : decode cX12_worthOf 35 = .ok (.goto (-31), 3) := by decide +kernel
theorem dX12_worthOf_38 : decode cX12_worthOf 38 = .ok (.iload_n 2, 1) := by decide +kernel
theorem dX12_worthOf_39 : decode cX12_worthOf 39 = .ok (.ireturn, 1) := by decide +kernel
theorem dX12_ownedBits_0 : decode cX12_ownedBits 0 = .ok (.bipush 31, 2) := by decide +kernel
theorem dX12_ownedBits_2 : decode cX12_ownedBits 2 = .ok (.aload_n 0, 1) := by decide +kernel
theorem dX12_ownedBits_3 : decode cX12_ownedBits 3 = .ok (.bipush 9, 2) := by decide +kernel
theorem dX12_ownedBits_5 : decode cX12_ownedBits 5 = .ok (.invokevirtual 135, 3) := by decide +kernel
theorem dX12_ownedBits_8 : decode cX12_ownedBits 8 = .ok (.iconst (-1), 1) := by decide +kernel
theorem dX12_ownedBits_9 : decode cX12_ownedBits 9 = .ok (.ixor, 1) := by decide +kernel
theorem dX12_ownedBits_10 : decode cX12_ownedBits 10 = .ok (.iand, 1) := by decide +kernel
theorem dX12_ownedBits_11 : decode cX12_ownedBits 11 = .ok (.ireturn, 1) := by decide +kernel
theorem dX12_here_0 : decode cX12_here 0 = .ok (.aload_n 0, 1) := by decide +kernel
theorem dX12_here_1 : decode cX12_here 1 = .ok (.getfield 138, 3) := by decide +kernel
theorem dX12_here_4 : decode cX12_here 4 = .ok (.aload_n 0, 1) := by decide +kernel
theorem dX12_here_5 : decode cX12_here 5 = .ok (.getfield 43, 3) := by decide +kernel
theorem dX12_here_8 : decode cX12_here 8 = .ok (.aload_n 0, 1) := by decide +kernel
theorem dX12_here_9 : decode cX12_here 9 = .ok (.getfield 141, 3) := by decide +kernel
theorem dX12_here_12 : decode cX12_here 12 = .ok (.iaload, 1) := by decide +kernel
theorem dX12_here_13 : decode cX12_here 13 = .ok (.if_icmp .ge 24, 3) := by decide +kernel
theorem dX12_here_16 : decode cX12_here 16 = .ok (.aload_n 0, 1) := by decide +kernel
theorem dX12_here_17 : decode cX12_here 17 = .ok (.getfield 46, 3) := by decide +kernel
theorem dX12_here_20 : decode cX12_here 20 = .ok (.bipush 100, 2) := by decide +kernel
theorem dX12_here_22 : decode cX12_here 22 = .ok (.aload_n 0, 1) := by decide +kernel
theorem dX12_here_23 : decode cX12_here 23 = .ok (.getfield 141, 3) := by decide +kernel
theorem dX12_here_26 : decode cX12_here 26 = .ok (.imul, 1) := by decide +kernel
theorem dX12_here_27 : decode cX12_here 27 = .ok (.aload_n 0, 1) := by decide +kernel
theorem dX12_here_28 : decode cX12_here 28 = .ok (.getfield 138, 3) := by decide +kernel
theorem dX12_here_31 : decode cX12_here 31 = .ok (.iadd, 1) := by decide +kernel
theorem dX12_here_32 : decode cX12_here 32 = .ok (.laload, 1) := by decide +kernel
theorem dX12_here_33 : decode cX12_here 33 = .ok (.l2i, 1) := by decide +kernel
theorem dX12_here_34 : decode cX12_here 34 = .ok (.goto 6, 3) := by decide +kernel
theorem dX12_here_37 : decode cX12_here 37 = .ok (.sipush (-999), 3) := by decide +kernel
theorem dX12_here_40 : decode cX12_here 40 = .ok (.ireturn, 1) := by decide +kernel
theorem dX12_readDigits_0 : decode cX12_readDigits 0 = .ok (.iconst 0, 1) := by decide +kernel
theorem dX12_readDigits_1 : decode cX12_readDigits 1 = .ok (.istore_n 2, 1) := by decide +kernel
theorem dX12_readDigits_2 : decode cX12_readDigits 2 = .ok (.iconst 0, 1) := by decide +kernel
theorem dX12_readDigits_3 : decode cX12_readDigits 3 = .ok (.istore_n 3, 1) := by decide +kernel
theorem dX12_readDigits_4 : decode cX12_readDigits 4 = .ok (.iload_n 3, 1) := by decide +kernel
theorem dX12_readDigits_5 : decode cX12_readDigits 5 = .ok (.iload_n 1, 1) := by decide +kernel
theorem dX12_readDigits_6 : decode cX12_readDigits 6 = .ok (.if_icmp .ge 87, 3) := by decide +kernel
theorem dX12_readDigits_9 : decode cX12_readDigits 9 = .ok (.aload_n 0, 1) := by decide +kernel
theorem dX12_readDigits_10 : decode cX12_readDigits 10 = .ok (.aload_n 0, 1) := by decide +kernel
theorem dX12_readDigits_11 : decode cX12_readDigits 11 = .ok (.getfield 144, 3) := by decide +kernel
theorem dX12_readDigits_14 : decode cX12_readDigits 14 = .ok (.ifCond .ne 20, 3) := by decide +kernel
theorem dX12_readDigits_17 : decode cX12_readDigits 17 = .ok (.aload_n 0, 1) := by decide +kernel
theorem dX12_readDigits_18 : decode cX12_readDigits 18 = .ok (.invokevirtual 148, 3) := by decide +kernel
theorem dX12_readDigits_21 : decode cX12_readDigits 21 = .ok (.i2l, 1) := by decide +kernel
theorem dX12_readDigits_22 : decode cX12_readDigits 22 = .ok (.ldc2_w 152, 3) := by decide +kernel
theorem dX12_readDigits_25 : decode cX12_readDigits 25 = .ok (.ldc2_w 154, 3) := by decide +kernel
theorem dX12_readDigits_28 : decode cX12_readDigits 28 = .ok (.invokestatic 83, 3) := by decide +kernel
theorem dX12_readDigits_31 : decode cX12_readDigits 31 = .ok (.ifCond .ne 7, 3) := by decide +kernel
theorem dX12_readDigits_34 : decode cX12_readDigits 34 = .ok (.iconst 1, 1) := by decide +kernel
theorem dX12_readDigits_35 : decode cX12_readDigits 35 = .ok (.goto 4, 3) := by decide +kernel
theorem dX12_readDigits_38 : decode cX12_readDigits 38 = .ok (.iconst 0, 1) := by decide +kernel
theorem dX12_readDigits_39 : decode cX12_readDigits 39 = .ok (.putfield 144, 3) := by decide +kernel
theorem dX12_readDigits_42 : decode cX12_readDigits 42 = .ok (.aload_n 0, 1) := by decide +kernel
theorem dX12_readDigits_43 : decode cX12_readDigits 43 = .ok (.getfield 144, 3) := by decide +kernel
theorem dX12_readDigits_46 : decode cX12_readDigits 46 = .ok (.ifCond .eq 7, 3) := by decide +kernel
theorem dX12_readDigits_49 : decode cX12_readDigits 49 = .ok (.iconst 0, 1) := by decide +kernel
theorem dX12_readDigits_50 : decode cX12_readDigits 50 = .ok (.goto 15, 3) := by decide +kernel
theorem dX12_readDigits_53 : decode cX12_readDigits 53 = .ok (.bipush 10, 2) := by decide +kernel
theorem dX12_readDigits_55 : decode cX12_readDigits 55 = .ok (.iload_n 2, 1) := by decide +kernel
theorem dX12_readDigits_56 : decode cX12_readDigits 56 = .ok (.imul, 1) := by decide +kernel
theorem dX12_readDigits_57 : decode cX12_readDigits 57 = .ok (.aload_n 0, 1) := by decide +kernel
theorem dX12_readDigits_58 : decode cX12_readDigits 58 = .ok (.invokevirtual 148, 3) := by decide +kernel
theorem dX12_readDigits_61 : decode cX12_readDigits 61 = .ok (.iadd, 1) := by decide +kernel
theorem dX12_readDigits_62 : decode cX12_readDigits 62 = .ok (.bipush 48, 2) := by decide +kernel
theorem dX12_readDigits_64 : decode cX12_readDigits 64 = .ok (.isub, 1) := by decide +kernel
theorem dX12_readDigits_65 : decode cX12_readDigits 65 = .ok (.istore_n 2, 1) := by decide +kernel
theorem dX12_readDigits_66 : decode cX12_readDigits 66 = .ok (.aload_n 0, 1) := by decide +kernel
theorem dX12_readDigits_67 : decode cX12_readDigits 67 = .ok (.dup, 1) := by decide +kernel
theorem dX12_readDigits_68 : decode cX12_readDigits 68 = .ok (.getfield 138, 3) := by decide +kernel
theorem dX12_readDigits_71 : decode cX12_readDigits 71 = .ok (.aload_n 0, 1) := by decide +kernel
theorem dX12_readDigits_72 : decode cX12_readDigits 72 = .ok (.getfield 144, 3) := by decide +kernel
theorem dX12_readDigits_75 : decode cX12_readDigits 75 = .ok (.ifCond .eq 7, 3) := by decide +kernel
theorem dX12_readDigits_78 : decode cX12_readDigits 78 = .ok (.iconst 0, 1) := by decide +kernel
theorem dX12_readDigits_79 : decode cX12_readDigits 79 = .ok (.goto 4, 3) := by decide +kernel
theorem dX12_readDigits_82 : decode cX12_readDigits 82 = .ok (.iconst 1, 1) := by decide +kernel
theorem dX12_readDigits_83 : decode cX12_readDigits 83 = .ok (.iadd, 1) := by decide +kernel
theorem dX12_readDigits_84 : decode cX12_readDigits 84 = .ok (.putfield 138, 3) := by decide +kernel
theorem dX12_readDigits_87 : decode cX12_readDigits 87 = .ok (.iinc 3 1, 3) := by decide +kernel
theorem dX12_readDigits_90 : decode cX12_readDigits 90 = .ok (.goto (-86), 3) := by decide +kernel
theorem dX12_readDigits_93 : decode cX12_readDigits 93 = .ok (.iload_n 2, 1) := by decide +kernel
theorem dX12_readDigits_94 : decode cX12_readDigits 94 = .ok (.ireturn, 1) := by decide +kernel
theorem dX12_isLetter_0 : decode cX12_isLetter 0 = .ok (.iload_n 0, 1) := by decide +kernel
theorem dX12_isLetter_1 : decode cX12_isLetter 1 = .ok (.bipush 116, 2) := by decide +kernel
theorem dX12_isLetter_3 : decode cX12_isLetter 3 = .ok (.if_icmp .eq 33, 3) := by decide +kernel
theorem dX12_isLetter_6 : decode cX12_isLetter 6 = .ok (.iload_n 0, 1) := by decide +kernel
theorem dX12_isLetter_7 : decode cX12_isLetter 7 = .ok (.bipush 112, 2) := by decide +kernel
theorem dX12_isLetter_9 : decode cX12_isLetter 9 = .ok (.if_icmp .eq 27, 3) := by decide +kernel
theorem dX12_isLetter_12 : decode cX12_isLetter 12 = .ok (.iload_n 0, 1) := by decide +kernel
theorem dX12_isLetter_13 : decode cX12_isLetter 13 = .ok (.bipush 108, 2) := by decide +kernel
theorem dX12_isLetter_15 : decode cX12_isLetter 15 = .ok (.if_icmp .eq 21, 3) := by decide +kernel
theorem dX12_isLetter_18 : decode cX12_isLetter 18 = .ok (.iload_n 0, 1) := by decide +kernel
theorem dX12_isLetter_19 : decode cX12_isLetter 19 = .ok (.bipush 111, 2) := by decide +kernel
theorem dX12_isLetter_21 : decode cX12_isLetter 21 = .ok (.if_icmp .eq 15, 3) := by decide +kernel
theorem dX12_isLetter_24 : decode cX12_isLetter 24 = .ok (.iload_n 0, 1) := by decide +kernel
theorem dX12_isLetter_25 : decode cX12_isLetter 25 = .ok (.bipush 99, 2) := by decide +kernel
theorem dX12_isLetter_27 : decode cX12_isLetter 27 = .ok (.if_icmp .eq 9, 3) := by decide +kernel
theorem dX12_isLetter_30 : decode cX12_isLetter 30 = .ok (.iload_n 0, 1) := by decide +kernel
theorem dX12_isLetter_31 : decode cX12_isLetter 31 = .ok (.bipush 100, 2) := by decide +kernel
theorem dX12_isLetter_33 : decode cX12_isLetter 33 = .ok (.if_icmp .ne 7, 3) := by decide +kernel
theorem dX12_isLetter_36 : decode cX12_isLetter 36 = .ok (.iconst 1, 1) := by decide +kernel
theorem dX12_isLetter_37 : decode cX12_isLetter 37 = .ok (.goto 4, 3) := by decide +kernel
theorem dX12_isLetter_40 : decode cX12_isLetter 40 = .ok (.iconst 0, 1) := by decide +kernel
theorem dX12_isLetter_41 : decode cX12_isLetter 41 = .ok (.ireturn, 1) := by decide +kernel
theorem dX12_readNumbers_0 : decode cX12_readNumbers 0 = .ok (.aload_n 0, 1) := by decide +kernel
theorem dX12_readNumbers_1 : decode cX12_readNumbers 1 = .ok (.getfield 56, 3) := by decide +kernel
theorem dX12_readNumbers_4 : decode cX12_readNumbers 4 = .ok (.iload_n 2, 1) := by decide +kernel
theorem dX12_readNumbers_5 : decode cX12_readNumbers 5 = .ok (.aload_n 0, 1) := by decide +kernel
theorem dX12_readNumbers_6 : decode cX12_readNumbers 6 = .ok (.iload_n 1, 1) := by decide +kernel
theorem dX12_readNumbers_7 : decode cX12_readNumbers 7 = .ok (.bipush 100, 2) := by decide +kernel
theorem dX12_readNumbers_9 : decode cX12_readNumbers 9 = .ok (.if_icmp .ne 7, 3) := by decide +kernel
theorem dX12_readNumbers_12 : decode cX12_readNumbers 12 = .ok (.iconst 2, 1) := by decide +kernel
theorem dX12_readNumbers_13 : decode cX12_readNumbers 13 = .ok (.goto 4, 3) := by decide +kernel
theorem dX12_readNumbers_16 : decode cX12_readNumbers 16 = .ok (.iconst 1, 1) := by decide +kernel
theorem dX12_readNumbers_17 : decode cX12_readNumbers 17 = .ok (.invokevirtual 156, 3) := by decide +kernel
theorem dX12_readNumbers_20 : decode cX12_readNumbers 20 = .ok (.iastore, 1) := by decide +kernel
theorem dX12_readNumbers_21 : decode cX12_readNumbers 21 = .ok (.iload_n 1, 1) := by decide +kernel
theorem dX12_readNumbers_22 : decode cX12_readNumbers 22 = .ok (.bipush 100, 2) := by decide +kernel
theorem dX12_readNumbers_24 : decode cX12_readNumbers 24 = .ok (.if_icmp .eq 26, 3) := by decide +kernel
theorem dX12_readNumbers_27 : decode cX12_readNumbers 27 = .ok (.aload_n 0, 1) := by decide +kernel
theorem dX12_readNumbers_28 : decode cX12_readNumbers 28 = .ok (.getfield 56, 3) := by decide +kernel
theorem dX12_readNumbers_31 : decode cX12_readNumbers 31 = .ok (.iload_n 2, 1) := by decide +kernel
theorem dX12_readNumbers_32 : decode cX12_readNumbers 32 = .ok (.iconst 1, 1) := by decide +kernel
theorem dX12_readNumbers_33 : decode cX12_readNumbers 33 = .ok (.iadd, 1) := by decide +kernel
theorem dX12_readNumbers_34 : decode cX12_readNumbers 34 = .ok (.aload_n 0, 1) := by decide +kernel
theorem dX12_readNumbers_35 : decode cX12_readNumbers 35 = .ok (.iload_n 1, 1) := by decide +kernel
theorem dX12_readNumbers_36 : decode cX12_readNumbers 36 = .ok (.bipush 116, 2) := by decide +kernel
theorem dX12_readNumbers_38 : decode cX12_readNumbers 38 = .ok (.if_icmp .ne 7, 3) := by decide +kernel
theorem dX12_readNumbers_41 : decode cX12_readNumbers 41 = .ok (.iconst 4, 1) := by decide +kernel
theorem dX12_readNumbers_42 : decode cX12_readNumbers 42 = .ok (.goto 4, 3) := by decide +kernel
theorem dX12_readNumbers_45 : decode cX12_readNumbers 45 = .ok (.iconst 1, 1) := by decide +kernel
theorem dX12_readNumbers_46 : decode cX12_readNumbers 46 = .ok (.invokevirtual 156, 3) := by decide +kernel
theorem dX12_readNumbers_49 : decode cX12_readNumbers 49 = .ok (.iastore, 1) := by decide +kernel
theorem dX12_readNumbers_50 : decode cX12_readNumbers 50 = .ok (.iload_n 1, 1) := by decide +kernel
theorem dX12_readNumbers_51 : decode cX12_readNumbers 51 = .ok (.bipush 116, 2) := by decide +kernel
theorem dX12_readNumbers_53 : decode cX12_readNumbers 53 = .ok (.if_icmp .eq 15, 3) := by decide +kernel
theorem dX12_readNumbers_56 : decode cX12_readNumbers 56 = .ok (.iload_n 1, 1) := by decide +kernel
theorem dX12_readNumbers_57 : decode cX12_readNumbers 57 = .ok (.bipush 112, 2) := by decide +kernel
theorem dX12_readNumbers_59 : decode cX12_readNumbers 59 = .ok (.if_icmp .eq 9, 3) := by decide +kernel
theorem dX12_readNumbers_62 : decode cX12_readNumbers 62 = .ok (.iload_n 1, 1) := by decide +kernel
theorem dX12_readNumbers_63 : decode cX12_readNumbers 63 = .ok (.bipush 108, 2) := by decide +kernel
theorem dX12_readNumbers_65 : decode cX12_readNumbers 65 = .ok (.if_icmp .ne 26, 3) := by decide +kernel
theorem dX12_readNumbers_68 : decode cX12_readNumbers 68 = .ok (.aload_n 0, 1) := by decide +kernel
theorem dX12_readNumbers_69 : decode cX12_readNumbers 69 = .ok (.getfield 56, 3) := by decide +kernel
theorem dX12_readNumbers_72 : decode cX12_readNumbers 72 = .ok (.iload_n 2, 1) := by decide +kernel
theorem dX12_readNumbers_73 : decode cX12_readNumbers 73 = .ok (.iconst 2, 1) := by decide +kernel
theorem dX12_readNumbers_74 : decode cX12_readNumbers 74 = .ok (.iadd, 1) := by decide +kernel
theorem dX12_readNumbers_75 : decode cX12_readNumbers 75 = .ok (.aload_n 0, 1) := by decide +kernel
theorem dX12_readNumbers_76 : decode cX12_readNumbers 76 = .ok (.iload_n 1, 1) := by decide +kernel
theorem dX12_readNumbers_77 : decode cX12_readNumbers 77 = .ok (.bipush 108, 2) := by decide +kernel
theorem dX12_readNumbers_79 : decode cX12_readNumbers 79 = .ok (.if_icmp .ne 7, 3) := by decide +kernel
theorem dX12_readNumbers_82 : decode cX12_readNumbers 82 = .ok (.iconst 2, 1) := by decide +kernel
theorem dX12_readNumbers_83 : decode cX12_readNumbers 83 = .ok (.goto 4, 3) := by decide +kernel
theorem dX12_readNumbers_86 : decode cX12_readNumbers 86 = .ok (.iconst 1, 1) := by decide +kernel
theorem dX12_readNumbers_87 : decode cX12_readNumbers 87 = .ok (.invokevirtual 156, 3) := by decide +kernel
theorem dX12_readNumbers_90 : decode cX12_readNumbers 90 = .ok (.iastore, 1) := by decide +kernel
theorem dX12_readNumbers_91 : decode cX12_readNumbers 91 = .ok (.return_, 1) := by decide +kernel
theorem dX12_readStatement_0 : decode cX12_readStatement 0 = .ok (.aload_n 0, 1) := by decide +kernel
theorem dX12_readStatement_1 : decode cX12_readStatement 1 = .ok (.getfield 159, 3) := by decide +kernel
theorem dX12_readStatement_4 : decode cX12_readStatement 4 = .ok (.istore_n 1, 1) := by decide +kernel
theorem dX12_readStatement_5 : decode cX12_readStatement 5 = .ok (.aload_n 0, 1) := by decide +kernel
theorem dX12_readStatement_6 : decode cX12_readStatement 6 = .ok (.invokevirtual 148, 3) := by decide +kernel
theorem dX12_readStatement_9 : decode cX12_readStatement 9 = .ok (.istore_n 2, 1) := by decide +kernel
theorem dX12_readStatement_10 : decode cX12_readStatement 10 = .ok (.aload_n 0, 1) := by decide +kernel
theorem dX12_readStatement_11 : decode cX12_readStatement 11 = .ok (.getfield 50, 3) := by decide +kernel
theorem dX12_readStatement_14 : decode cX12_readStatement 14 = .ok (.iload_n 1, 1) := by decide +kernel
theorem dX12_readStatement_15 : decode cX12_readStatement 15 = .ok (.aload_n 0, 1) := by decide +kernel
theorem dX12_readStatement_16 : decode cX12_readStatement 16 = .ok (.getfield 138, 3) := by decide +kernel
theorem dX12_readStatement_19 : decode cX12_readStatement 19 = .ok (.iastore, 1) := by decide +kernel
theorem dX12_readStatement_20 : decode cX12_readStatement 20 = .ok (.aload_n 0, 1) := by decide +kernel
theorem dX12_readStatement_21 : decode cX12_readStatement 21 = .ok (.getfield 53, 3) := by decide +kernel
theorem dX12_readStatement_24 : decode cX12_readStatement 24 = .ok (.iload_n 1, 1) := by decide +kernel
theorem dX12_readStatement_25 : decode cX12_readStatement 25 = .ok (.iload_n 2, 1) := by decide +kernel
theorem dX12_readStatement_26 : decode cX12_readStatement 26 = .ok (.iastore, 1) := by decide +kernel
theorem dX12_readStatement_27 : decode cX12_readStatement 27 = .ok (.aload_n 0, 1) := by decide +kernel
theorem dX12_readStatement_28 : decode cX12_readStatement 28 = .ok (.aload_n 0, 1) := by decide +kernel
theorem dX12_readStatement_29 : decode cX12_readStatement 29 = .ok (.getfield 144, 3) := by decide +kernel
theorem dX12_readStatement_32 : decode cX12_readStatement 32 = .ok (.ifCond .ne 10, 3) := by decide +kernel
theorem dX12_readStatement_35 : decode cX12_readStatement 35 = .ok (.iload_n 2, 1) := by decide +kernel
theorem dX12_readStatement_36 : decode cX12_readStatement 36 = .ok (.invokestatic 162, 3) := by decide +kernel
theorem dX12_readStatement_39 : decode cX12_readStatement 39 = .ok (.ifCond .ne 7, 3) := by decide +kernel
theorem dX12_readStatement_42 : decode cX12_readStatement 42 = .ok (.iconst 1, 1) := by decide +kernel
theorem dX12_readStatement_43 : decode cX12_readStatement 43 = .ok (.goto 4, 3) := by decide +kernel
theorem dX12_readStatement_46 : decode cX12_readStatement 46 = .ok (.iconst 0, 1) := by decide +kernel
theorem dX12_readStatement_47 : decode cX12_readStatement 47 = .ok (.putfield 144, 3) := by decide +kernel
theorem dX12_readStatement_50 : decode cX12_readStatement 50 = .ok (.aload_n 0, 1) := by decide +kernel
theorem dX12_readStatement_51 : decode cX12_readStatement 51 = .ok (.dup, 1) := by decide +kernel
theorem dX12_readStatement_52 : decode cX12_readStatement 52 = .ok (.getfield 138, 3) := by decide +kernel
theorem dX12_readStatement_55 : decode cX12_readStatement 55 = .ok (.aload_n 0, 1) := by decide +kernel
theorem dX12_readStatement_56 : decode cX12_readStatement 56 = .ok (.getfield 144, 3) := by decide +kernel
theorem dX12_readStatement_59 : decode cX12_readStatement 59 = .ok (.ifCond .eq 7, 3) := by decide +kernel
theorem dX12_readStatement_62 : decode cX12_readStatement 62 = .ok (.iconst 0, 1) := by decide +kernel
theorem dX12_readStatement_63 : decode cX12_readStatement 63 = .ok (.goto 4, 3) := by decide +kernel
theorem dX12_readStatement_66 : decode cX12_readStatement 66 = .ok (.iconst 1, 1) := by decide +kernel
theorem dX12_readStatement_67 : decode cX12_readStatement 67 = .ok (.iadd, 1) := by decide +kernel
theorem dX12_readStatement_68 : decode cX12_readStatement 68 = .ok (.putfield 138, 3) := by decide +kernel
theorem dX12_readStatement_71 : decode cX12_readStatement 71 = .ok (.aload_n 0, 1) := by decide +kernel
theorem dX12_readStatement_72 : decode cX12_readStatement 72 = .ok (.getfield 144, 3) := by decide +kernel
theorem dX12_readStatement_75 : decode cX12_readStatement 75 = .ok (.ifCond .ne 11, 3) := by decide +kernel
theorem dX12_readStatement_78 : decode cX12_readStatement 78 = .ok (.aload_n 0, 1) := by decide +kernel
theorem dX12_readStatement_79 : decode cX12_readStatement 79 = .ok (.iload_n 2, 1) := by decide +kernel
theorem dX12_readStatement_80 : decode cX12_readStatement 80 = .ok (.iconst 3, 1) := by decide +kernel
theorem dX12_readStatement_81 : decode cX12_readStatement 81 = .ok (.iload_n 1, 1) := by decide +kernel
theorem dX12_readStatement_82 : decode cX12_readStatement 82 = .ok (.imul, 1) := by decide +kernel
theorem dX12_readStatement_83 : decode cX12_readStatement 83 = .ok (.invokevirtual 165, 3) := by decide +kernel
theorem dX12_readStatement_86 : decode cX12_readStatement 86 = .ok (.aload_n 0, 1) := by decide +kernel
theorem dX12_readStatement_87 : decode cX12_readStatement 87 = .ok (.aload_n 0, 1) := by decide +kernel
theorem dX12_readStatement_88 : decode cX12_readStatement 88 = .ok (.getfield 144, 3) := by decide +kernel
theorem dX12_readStatement_91 : decode cX12_readStatement 91 = .ok (.ifCond .ne 12, 3) := by decide +kernel
theorem dX12_readStatement_94 : decode cX12_readStatement 94 = .ok (.aload_n 0, 1) := by decide +kernel
theorem dX12_readStatement_95 : decode cX12_readStatement 95 = .ok (.invokevirtual 148, 3) := by decide +kernel
theorem dX12_readStatement_98 : decode cX12_readStatement 98 = .ok (.bipush 59, 2) := by decide +kernel
theorem dX12_readStatement_100 : decode cX12_readStatement 100 = .ok (.if_icmp .eq 7, 3) := by decide +kernel
theorem dX12_readStatement_103 : decode cX12_readStatement 103 = .ok (.iconst 1, 1) := by decide +kernel
theorem dX12_readStatement_104 : decode cX12_readStatement 104 = .ok (.goto 4, 3) := by decide +kernel
theorem dX12_readStatement_107 : decode cX12_readStatement 107 = .ok (.iconst 0, 1) := by decide +kernel
theorem dX12_readStatement_108 : decode cX12_readStatement 108 = .ok (.putfield 144, 3) := by decide +kernel
theorem dX12_readStatement_111 : decode cX12_readStatement 111 = .ok (.aload_n 0, 1) := by decide +kernel
theorem dX12_readStatement_112 : decode cX12_readStatement 112 = .ok (.dup, 1) := by decide +kernel
theorem dX12_readStatement_113 : decode cX12_readStatement 113 = .ok (.getfield 138, 3) := by decide +kernel
theorem dX12_readStatement_116 : decode cX12_readStatement 116 = .ok (.aload_n 0, 1) := by decide +kernel
theorem dX12_readStatement_117 : decode cX12_readStatement 117 = .ok (.getfield 144, 3) := by decide +kernel
theorem dX12_readStatement_120 : decode cX12_readStatement 120 = .ok (.ifCond .eq 7, 3) := by decide +kernel
theorem dX12_readStatement_123 : decode cX12_readStatement 123 = .ok (.iconst 0, 1) := by decide +kernel
theorem dX12_readStatement_124 : decode cX12_readStatement 124 = .ok (.goto 4, 3) := by decide +kernel
theorem dX12_readStatement_127 : decode cX12_readStatement 127 = .ok (.iconst 1, 1) := by decide +kernel
theorem dX12_readStatement_128 : decode cX12_readStatement 128 = .ok (.iadd, 1) := by decide +kernel
theorem dX12_readStatement_129 : decode cX12_readStatement 129 = .ok (.putfield 138, 3) := by decide +kernel
theorem dX12_readStatement_132 : decode cX12_readStatement 132 = .ok (.aload_n 0, 1) := by decide +kernel
theorem dX12_readStatement_133 : decode cX12_readStatement 133 = .ok (.dup, 1) := by decide +kernel
theorem dX12_readStatement_134 : decode cX12_readStatement 134 = .ok (.getfield 159, 3) := by decide +kernel
theorem dX12_readStatement_137 : decode cX12_readStatement 137 = .ok (.iconst 1, 1) := by decide +kernel
theorem dX12_readStatement_138 : decode cX12_readStatement 138 = .ok (.iadd, 1) := by decide +kernel
theorem dX12_readStatement_139 : decode cX12_readStatement 139 = .ok (.putfield 159, 3) := by decide +kernel
theorem dX12_readStatement_142 : decode cX12_readStatement 142 = .ok (.return_, 1) := by decide +kernel
theorem dX12_oneComes_0 : decode cX12_oneComes 0 = .ok (.iload_n 1, 1) := by decide +kernel
theorem dX12_oneComes_1 : decode cX12_oneComes 1 = .ok (.bipush 8, 2) := by decide +kernel
theorem dX12_oneComes_3 : decode cX12_oneComes 3 = .ok (.if_icmp .ge 23, 3) := by decide +kernel
theorem dX12_oneComes_6 : decode cX12_oneComes 6 = .ok (.iload_n 3, 1) := by decide +kernel
theorem dX12_oneComes_7 : decode cX12_oneComes 7 = .ok (.invokestatic 169, 3) := by decide +kernel
theorem dX12_oneComes_10 : decode cX12_oneComes 10 = .ok (.ifCond .eq 16, 3) := by decide +kernel
theorem dX12_oneComes_13 : decode cX12_oneComes 13 = .ok (.aload_n 0, 1) := by decide +kernel
theorem dX12_oneComes_14 : decode cX12_oneComes 14 = .ok (.getfield 87, 3) := by decide +kernel
theorem dX12_oneComes_17 : decode cX12_oneComes 17 = .ok (.bipush 7, 2) := by decide +kernel
theorem dX12_oneComes_19 : decode cX12_oneComes 19 = .ok (.if_icmp .ge 7, 3) := by decide +kernel
theorem dX12_oneComes_22 : decode cX12_oneComes 22 = .ok (.iconst 1, 1) := by decide +kernel
theorem dX12_oneComes_23 : decode cX12_oneComes 23 = .ok (.goto 4, 3) := by decide +kernel
theorem dX12_oneComes_26 : decode cX12_oneComes 26 = .ok (.iconst 0, 1) := by decide +kernel
theorem dX12_oneComes_27 : decode cX12_oneComes 27 = .ok (.istore 4, 2) := by decide +kernel
theorem dX12_oneComes_29 : decode cX12_oneComes 29 = .ok (.iload 4, 2) := by decide +kernel
theorem dX12_oneComes_31 : decode cX12_oneComes 31 = .ok (.ifCond .eq 73, 3) := by decide +kernel
theorem dX12_oneComes_34 : decode cX12_oneComes 34 = .ok (.aload_n 0, 1) := by decide +kernel
theorem dX12_oneComes_35 : decode cX12_oneComes 35 = .ok (.getfield 19, 3) := by decide +kernel
theorem dX12_oneComes_38 : decode cX12_oneComes 38 = .ok (.aload_n 0, 1) := by decide +kernel
theorem dX12_oneComes_39 : decode cX12_oneComes 39 = .ok (.getfield 87, 3) := by decide +kernel
theorem dX12_oneComes_42 : decode cX12_oneComes 42 = .ok (.iload_n 1, 1) := by decide +kernel
theorem dX12_oneComes_43 : decode cX12_oneComes 43 = .ok (.iastore, 1) := by decide +kernel
theorem dX12_oneComes_44 : decode cX12_oneComes 44 = .ok (.aload_n 0, 1) := by decide +kernel
theorem dX12_oneComes_45 : decode cX12_oneComes 45 = .ok (.getfield 22, 3) := by decide +kernel
theorem dX12_oneComes_48 : decode cX12_oneComes 48 = .ok (.aload_n 0, 1) := by decide +kernel
theorem dX12_oneComes_49 : decode cX12_oneComes 49 = .ok (.getfield 87, 3) := by decide +kernel
theorem dX12_oneComes_52 : decode cX12_oneComes 52 = .ok (.iload_n 2, 1) := by decide +kernel
theorem dX12_oneComes_53 : decode cX12_oneComes 53 = .ok (.iastore, 1) := by decide +kernel
theorem dX12_oneComes_54 : decode cX12_oneComes 54 = .ok (.aload_n 0, 1) := by decide +kernel
theorem dX12_oneComes_55 : decode cX12_oneComes 55 = .ok (.getfield 25, 3) := by decide +kernel
theorem dX12_oneComes_58 : decode cX12_oneComes 58 = .ok (.aload_n 0, 1) := by decide +kernel
theorem dX12_oneComes_59 : decode cX12_oneComes 59 = .ok (.getfield 87, 3) := by decide +kernel
theorem dX12_oneComes_62 : decode cX12_oneComes 62 = .ok (.iload_n 3, 1) := by decide +kernel
theorem dX12_oneComes_63 : decode cX12_oneComes 63 = .ok (.iastore, 1) := by decide +kernel
theorem dX12_oneComes_64 : decode cX12_oneComes 64 = .ok (.iconst 0, 1) := by decide +kernel
theorem dX12_oneComes_65 : decode cX12_oneComes 65 = .ok (.istore 5, 2) := by decide +kernel
theorem dX12_oneComes_67 : decode cX12_oneComes 67 = .ok (.iload 5, 2) := by decide +kernel
theorem dX12_oneComes_69 : decode cX12_oneComes 69 = .ok (.iconst 5, 1) := by decide +kernel
theorem dX12_oneComes_70 : decode cX12_oneComes 70 = .ok (.if_icmp .ge 24, 3) := by decide +kernel
theorem dX12_oneComes_73 : decode cX12_oneComes 73 = .ok (.aload_n 0, 1) := by decide +kernel
theorem dX12_oneComes_74 : decode cX12_oneComes 74 = .ok (.getfield 28, 3) := by decide +kernel
theorem dX12_oneComes_77 : decode cX12_oneComes 77 = .ok (.iconst 5, 1) := by decide +kernel
theorem dX12_oneComes_78 : decode cX12_oneComes 78 = .ok (.aload_n 0, 1) := by decide +kernel
theorem dX12_oneComes_79 : decode cX12_oneComes 79 = .ok (.getfield 87, 3) := by decide +kernel
theorem dX12_oneComes_82 : decode cX12_oneComes 82 = .ok (.imul, 1) := by decide +kernel
theorem dX12_oneComes_83 : decode cX12_oneComes 83 = .ok (.iload 5, 2) := by decide +kernel
theorem dX12_oneComes_85 : decode cX12_oneComes 85 = .ok (.iadd, 1) := by decide +kernel
theorem dX12_oneComes_86 : decode cX12_oneComes 86 = .ok (.iconst 0, 1) := by decide +kernel
theorem dX12_oneComes_87 : decode cX12_oneComes 87 = .ok (.iastore, 1) := by decide +kernel
theorem dX12_oneComes_88 : decode cX12_oneComes 88 = .ok (.iinc 5 1, 3) := by decide +kernel
theorem dX12_oneComes_91 : decode cX12_oneComes 91 = .ok (.goto (-24), 3) := by decide +kernel
theorem dX12_oneComes_94 : decode cX12_oneComes 94 = .ok (.aload_n 0, 1) := by decide +kernel
theorem dX12_oneComes_95 : decode cX12_oneComes 95 = .ok (.dup, 1) := by decide +kernel
theorem dX12_oneComes_96 : decode cX12_oneComes 96 = .ok (.getfield 87, 3) := by decide +kernel
theorem dX12_oneComes_99 : decode cX12_oneComes 99 = .ok (.iconst 1, 1) := by decide +kernel
theorem dX12_oneComes_100 : decode cX12_oneComes 100 = .ok (.iadd, 1) := by decide +kernel
theorem dX12_oneComes_101 : decode cX12_oneComes 101 = .ok (.putfield 87, 3) := by decide +kernel
theorem dX12_oneComes_104 : decode cX12_oneComes 104 = .ok (.iload 4, 2) := by decide +kernel
theorem dX12_oneComes_106 : decode cX12_oneComes 106 = .ok (.ireturn, 1) := by decide +kernel
theorem dX12_daysCome_0 : decode cX12_daysCome 0 = .ok (.iload_n 1, 1) := by decide +kernel
theorem dX12_daysCome_1 : decode cX12_daysCome 1 = .ok (.i2l, 1) := by decide +kernel
theorem dX12_daysCome_2 : decode cX12_daysCome 2 = .ok (.lconst 1, 1) := by decide +kernel
theorem dX12_daysCome_3 : decode cX12_daysCome 3 = .ok (.ldc2_w 172, 3) := by decide +kernel
theorem dX12_daysCome_6 : decode cX12_daysCome 6 = .ok (.invokestatic 83, 3) := by decide +kernel
theorem dX12_daysCome_9 : decode cX12_daysCome 9 = .ok (.ifCond .eq 19, 3) := by decide +kernel
theorem dX12_daysCome_12 : decode cX12_daysCome 12 = .ok (.aload_n 0, 1) := by decide +kernel
theorem dX12_daysCome_13 : decode cX12_daysCome 13 = .ok (.getfield 113, 3) := by decide +kernel
theorem dX12_daysCome_16 : decode cX12_daysCome 16 = .ok (.iload_n 1, 1) := by decide +kernel
theorem dX12_daysCome_17 : decode cX12_daysCome 17 = .ok (.iadd, 1) := by decide +kernel
theorem dX12_daysCome_18 : decode cX12_daysCome 18 = .ok (.sipush 999, 3) := by decide +kernel
theorem dX12_daysCome_21 : decode cX12_daysCome 21 = .ok (.if_icmp .gt 7, 3) := by decide +kernel
theorem dX12_daysCome_24 : decode cX12_daysCome 24 = .ok (.iconst 1, 1) := by decide +kernel
theorem dX12_daysCome_25 : decode cX12_daysCome 25 = .ok (.goto 4, 3) := by decide +kernel
theorem dX12_daysCome_28 : decode cX12_daysCome 28 = .ok (.iconst 0, 1) := by decide +kernel
theorem dX12_daysCome_29 : decode cX12_daysCome 29 = .ok (.istore_n 2, 1) := by decide +kernel
theorem dX12_daysCome_30 : decode cX12_daysCome 30 = .ok (.iload_n 2, 1) := by decide +kernel
theorem dX12_daysCome_31 : decode cX12_daysCome 31 = .ok (.ifCond .eq 8, 3) := by decide +kernel
theorem dX12_daysCome_34 : decode cX12_daysCome 34 = .ok (.aload_n 0, 1) := by decide +kernel
theorem dX12_daysCome_35 : decode cX12_daysCome 35 = .ok (.iload_n 1, 1) := by decide +kernel
theorem dX12_daysCome_36 : decode cX12_daysCome 36 = .ok (.invokevirtual 174, 3) := by decide +kernel
theorem dX12_daysCome_39 : decode cX12_daysCome 39 = .ok (.iload_n 2, 1) := by decide +kernel
theorem dX12_daysCome_40 : decode cX12_daysCome 40 = .ok (.ireturn, 1) := by decide +kernel
theorem dX12_comesTold_0 : decode cX12_comesTold 0 = .ok (.aload_n 0, 1) := by decide +kernel
theorem dX12_comesTold_1 : decode cX12_comesTold 1 = .ok (.getfield 56, 3) := by decide +kernel
theorem dX12_comesTold_4 : decode cX12_comesTold 4 = .ok (.iconst 3, 1) := by decide +kernel
theorem dX12_comesTold_5 : decode cX12_comesTold 5 = .ok (.iload_n 1, 1) := by decide +kernel
theorem dX12_comesTold_6 : decode cX12_comesTold 6 = .ok (.imul, 1) := by decide +kernel
theorem dX12_comesTold_7 : decode cX12_comesTold 7 = .ok (.iaload, 1) := by decide +kernel
theorem dX12_comesTold_8 : decode cX12_comesTold 8 = .ok (.istore_n 2, 1) := by decide +kernel
theorem dX12_comesTold_9 : decode cX12_comesTold 9 = .ok (.aload_n 0, 1) := by decide +kernel
theorem dX12_comesTold_10 : decode cX12_comesTold 10 = .ok (.getfield 56, 3) := by decide +kernel
theorem dX12_comesTold_13 : decode cX12_comesTold 13 = .ok (.iconst 3, 1) := by decide +kernel
theorem dX12_comesTold_14 : decode cX12_comesTold 14 = .ok (.iload_n 1, 1) := by decide +kernel
theorem dX12_comesTold_15 : decode cX12_comesTold 15 = .ok (.imul, 1) := by decide +kernel
theorem dX12_comesTold_16 : decode cX12_comesTold 16 = .ok (.iconst 1, 1) := by decide +kernel
theorem dX12_comesTold_17 : decode cX12_comesTold 17 = .ok (.iadd, 1) := by decide +kernel
theorem dX12_comesTold_18 : decode cX12_comesTold 18 = .ok (.iaload, 1) := by decide +kernel
theorem dX12_comesTold_19 : decode cX12_comesTold 19 = .ok (.istore_n 3, 1) := by decide +kernel
theorem dX12_comesTold_20 : decode cX12_comesTold 20 = .ok (.aload_n 0, 1) := by decide +kernel
theorem dX12_comesTold_21 : decode cX12_comesTold 21 = .ok (.getfield 56, 3) := by decide +kernel
theorem dX12_comesTold_24 : decode cX12_comesTold 24 = .ok (.iconst 3, 1) := by decide +kernel
theorem dX12_comesTold_25 : decode cX12_comesTold 25 = .ok (.iload_n 1, 1) := by decide +kernel
theorem dX12_comesTold_26 : decode cX12_comesTold 26 = .ok (.imul, 1) := by decide +kernel
theorem dX12_comesTold_27 : decode cX12_comesTold 27 = .ok (.iconst 2, 1) := by decide +kernel
theorem dX12_comesTold_28 : decode cX12_comesTold 28 = .ok (.iadd, 1) := by decide +kernel
theorem dX12_comesTold_29 : decode cX12_comesTold 29 = .ok (.iaload, 1) := by decide +kernel
theorem dX12_comesTold_30 : decode cX12_comesTold 30 = .ok (.istore 4, 2) := by decide +kernel
theorem dX12_comesTold_32 : decode cX12_comesTold 32 = .ok (.iconst 1, 1) := by decide +kernel
theorem dX12_comesTold_33 : decode cX12_comesTold 33 = .ok (.istore 5, 2) := by decide +kernel
theorem dX12_comesTold_35 : decode cX12_comesTold 35 = .ok (.aload_n 0, 1) := by decide +kernel
theorem dX12_comesTold_36 : decode cX12_comesTold 36 = .ok (.getfield 53, 3) := by decide +kernel
theorem dX12_comesTold_39 : decode cX12_comesTold 39 = .ok (.iload_n 1, 1) := by decide +kernel
theorem dX12_comesTold_40 : decode cX12_comesTold 40 = .ok (.iaload, 1) := by decide +kernel
theorem dX12_comesTold_41 : decode cX12_comesTold 41 = .ok (.lookupswitch 238 #[(99, 201), (108, 104), (111, 158), (112, 95), (116, 51)], 51) := by decide +kernel
theorem dX12_comesTold_92 : decode cX12_comesTold 92 = .ok (.iload_n 2, 1) := by decide +kernel
theorem dX12_comesTold_93 : decode cX12_comesTold 93 = .ok (.invokestatic 90, 3) := by decide +kernel
theorem dX12_comesTold_96 : decode cX12_comesTold 96 = .ok (.ifCond .eq 14, 3) := by decide +kernel
theorem dX12_comesTold_99 : decode cX12_comesTold 99 = .ok (.iload_n 3, 1) := by decide +kernel
theorem dX12_comesTold_100 : decode cX12_comesTold 100 = .ok (.sipush 4095, 3) := by decide +kernel
theorem dX12_comesTold_103 : decode cX12_comesTold 103 = .ok (.if_icmp .gt 7, 3) := by decide +kernel
theorem dX12_comesTold_106 : decode cX12_comesTold 106 = .ok (.iconst 1, 1) := by decide +kernel
theorem dX12_comesTold_107 : decode cX12_comesTold 107 = .ok (.goto 4, 3) := by decide +kernel
theorem dX12_comesTold_110 : decode cX12_comesTold 110 = .ok (.iconst 0, 1) := by decide +kernel
theorem dX12_comesTold_111 : decode cX12_comesTold 111 = .ok (.istore 5, 2) := by decide +kernel
theorem dX12_comesTold_113 : decode cX12_comesTold 113 = .ok (.iload 5, 2) := by decide +kernel
theorem dX12_comesTold_115 : decode cX12_comesTold 115 = .ok (.ifCond .eq 18, 3) := by decide +kernel
theorem dX12_comesTold_118 : decode cX12_comesTold 118 = .ok (.aload_n 0, 1) := by decide +kernel
theorem dX12_comesTold_119 : decode cX12_comesTold 119 = .ok (.getfield 7, 3) := by decide +kernel
theorem dX12_comesTold_122 : decode cX12_comesTold 122 = .ok (.iload_n 2, 1) := by decide +kernel
theorem dX12_comesTold_123 : decode cX12_comesTold 123 = .ok (.iload_n 3, 1) := by decide +kernel
theorem dX12_comesTold_124 : decode cX12_comesTold 124 = .ok (.iastore, 1) := by decide +kernel
theorem dX12_comesTold_125 : decode cX12_comesTold 125 = .ok (.aload_n 0, 1) := by decide +kernel
theorem dX12_comesTold_126 : decode cX12_comesTold 126 = .ok (.getfield 13, 3) := by decide +kernel
theorem dX12_comesTold_129 : decode cX12_comesTold 129 = .ok (.iload_n 2, 1) := by decide +kernel
theorem dX12_comesTold_130 : decode cX12_comesTold 130 = .ok (.iload 4, 2) := by decide +kernel
theorem dX12_comesTold_132 : decode cX12_comesTold 132 = .ok (.iastore, 1) := by decide +kernel
theorem dX12_comesTold_133 : decode cX12_comesTold 133 = .ok (.iload 5, 2) := by decide +kernel
theorem dX12_comesTold_135 : decode cX12_comesTold 135 = .ok (.ireturn, 1) := by decide +kernel
theorem dX12_comesTold_136 : decode cX12_comesTold 136 = .ok (.aload_n 0, 1) := by decide +kernel
theorem dX12_comesTold_137 : decode cX12_comesTold 137 = .ok (.iload_n 2, 1) := by decide +kernel
theorem dX12_comesTold_138 : decode cX12_comesTold 138 = .ok (.iload_n 3, 1) := by decide +kernel
theorem dX12_comesTold_139 : decode cX12_comesTold 139 = .ok (.iload 4, 2) := by decide +kernel
theorem dX12_comesTold_141 : decode cX12_comesTold 141 = .ok (.invokevirtual 177, 3) := by decide +kernel
theorem dX12_comesTold_144 : decode cX12_comesTold 144 = .ok (.ireturn, 1) := by decide +kernel
theorem dX12_comesTold_145 : decode cX12_comesTold 145 = .ok (.aload_n 0, 1) := by decide +kernel
theorem dX12_comesTold_146 : decode cX12_comesTold 146 = .ok (.iload_n 2, 1) := by decide +kernel
theorem dX12_comesTold_147 : decode cX12_comesTold 147 = .ok (.invokevirtual 181, 3) := by decide +kernel
theorem dX12_comesTold_150 : decode cX12_comesTold 150 = .ok (.ifCond .eq 21, 3) := by decide +kernel
theorem dX12_comesTold_153 : decode cX12_comesTold 153 = .ok (.iload_n 3, 1) := by decide +kernel
theorem dX12_comesTold_154 : decode cX12_comesTold 154 = .ok (.invokestatic 90, 3) := by decide +kernel
theorem dX12_comesTold_157 : decode cX12_comesTold 157 = .ok (.ifCond .eq 14, 3) := by decide +kernel
theorem dX12_comesTold_160 : decode cX12_comesTold 160 = .ok (.iload 4, 2) := by decide +kernel
theorem dX12_comesTold_162 : decode cX12_comesTold 162 = .ok (.bipush 11, 2) := by decide +kernel
theorem dX12_comesTold_164 : decode cX12_comesTold 164 = .ok (.if_icmp .gt 7, 3) := by decide +kernel
theorem dX12_comesTold_167 : decode cX12_comesTold 167 = .ok (.iconst 1, 1) := by decide +kernel
theorem dX12_comesTold_168 : decode cX12_comesTold 168 = .ok (.goto 4, 3) := by decide +kernel
theorem dX12_comesTold_171 : decode cX12_comesTold 171 = .ok (.iconst 0, 1) := by decide +kernel
theorem dX12_comesTold_172 : decode cX12_comesTold 172 = .ok (.istore 5, 2) := by decide +kernel
theorem dX12_comesTold_174 : decode cX12_comesTold 174 = .ok (.iload 5, 2) := by decide +kernel
theorem dX12_comesTold_176 : decode cX12_comesTold 176 = .ok (.ifCond .eq 20, 3) := by decide +kernel
theorem dX12_comesTold_179 : decode cX12_comesTold 179 = .ok (.aload_n 0, 1) := by decide +kernel
theorem dX12_comesTold_180 : decode cX12_comesTold 180 = .ok (.getfield 28, 3) := by decide +kernel
theorem dX12_comesTold_183 : decode cX12_comesTold 183 = .ok (.iconst 5, 1) := by decide +kernel
theorem dX12_comesTold_184 : decode cX12_comesTold 184 = .ok (.iload_n 2, 1) := by decide +kernel
theorem dX12_comesTold_185 : decode cX12_comesTold 185 = .ok (.imul, 1) := by decide +kernel
theorem dX12_comesTold_186 : decode cX12_comesTold 186 = .ok (.iload_n 3, 1) := by decide +kernel
theorem dX12_comesTold_187 : decode cX12_comesTold 187 = .ok (.iadd, 1) := by decide +kernel
theorem dX12_comesTold_188 : decode cX12_comesTold 188 = .ok (.dup2, 1) := by decide +kernel
theorem dX12_comesTold_189 : decode cX12_comesTold 189 = .ok (.iaload, 1) := by decide +kernel
theorem dX12_comesTold_190 : decode cX12_comesTold 190 = .ok (.iconst 1, 1) := by decide +kernel
theorem dX12_comesTold_191 : decode cX12_comesTold 191 = .ok (.iload 4, 2) := by decide +kernel
theorem dX12_comesTold_193 : decode cX12_comesTold 193 = .ok (.ishl, 1) := by decide +kernel
theorem dX12_comesTold_194 : decode cX12_comesTold 194 = .ok (.ixor, 1) := by decide +kernel
theorem dX12_comesTold_195 : decode cX12_comesTold 195 = .ok (.iastore, 1) := by decide +kernel
theorem dX12_comesTold_196 : decode cX12_comesTold 196 = .ok (.iload 5, 2) := by decide +kernel
theorem dX12_comesTold_198 : decode cX12_comesTold 198 = .ok (.ireturn, 1) := by decide +kernel
theorem dX12_comesTold_199 : decode cX12_comesTold 199 = .ok (.iload_n 2, 1) := by decide +kernel
theorem dX12_comesTold_200 : decode cX12_comesTold 200 = .ok (.invokestatic 90, 3) := by decide +kernel
theorem dX12_comesTold_203 : decode cX12_comesTold 203 = .ok (.ifCond .eq 21, 3) := by decide +kernel
theorem dX12_comesTold_206 : decode cX12_comesTold 206 = .ok (.iload_n 3, 1) := by decide +kernel
theorem dX12_comesTold_207 : decode cX12_comesTold 207 = .ok (.bipush 9, 2) := by decide +kernel
theorem dX12_comesTold_209 : decode cX12_comesTold 209 = .ok (.if_icmp .eq 11, 3) := by decide +kernel
theorem dX12_comesTold_212 : decode cX12_comesTold 212 = .ok (.aload_n 0, 1) := by decide +kernel
theorem dX12_comesTold_213 : decode cX12_comesTold 213 = .ok (.iload_n 3, 1) := by decide +kernel
theorem dX12_comesTold_214 : decode cX12_comesTold 214 = .ok (.invokevirtual 181, 3) := by decide +kernel
theorem dX12_comesTold_217 : decode cX12_comesTold 217 = .ok (.ifCond .eq 7, 3) := by decide +kernel
theorem dX12_comesTold_220 : decode cX12_comesTold 220 = .ok (.iconst 1, 1) := by decide +kernel
theorem dX12_comesTold_221 : decode cX12_comesTold 221 = .ok (.goto 4, 3) := by decide +kernel
theorem dX12_comesTold_224 : decode cX12_comesTold 224 = .ok (.iconst 0, 1) := by decide +kernel
theorem dX12_comesTold_225 : decode cX12_comesTold 225 = .ok (.istore 5, 2) := by decide +kernel
theorem dX12_comesTold_227 : decode cX12_comesTold 227 = .ok (.iload 5, 2) := by decide +kernel
theorem dX12_comesTold_229 : decode cX12_comesTold 229 = .ok (.ifCond .eq 10, 3) := by decide +kernel
theorem dX12_comesTold_232 : decode cX12_comesTold 232 = .ok (.aload_n 0, 1) := by decide +kernel
theorem dX12_comesTold_233 : decode cX12_comesTold 233 = .ok (.getfield 16, 3) := by decide +kernel
theorem dX12_comesTold_236 : decode cX12_comesTold 236 = .ok (.iload_n 2, 1) := by decide +kernel
theorem dX12_comesTold_237 : decode cX12_comesTold 237 = .ok (.iload_n 3, 1) := by decide +kernel
theorem dX12_comesTold_238 : decode cX12_comesTold 238 = .ok (.iastore, 1) := by decide +kernel
theorem dX12_comesTold_239 : decode cX12_comesTold 239 = .ok (.iload 5, 2) := by decide +kernel
theorem dX12_comesTold_241 : decode cX12_comesTold 241 = .ok (.ireturn, 1) := by decide +kernel
theorem dX12_comesTold_242 : decode cX12_comesTold 242 = .ok (.aload_n 0, 1) := by decide +kernel
theorem dX12_comesTold_243 : decode cX12_comesTold 243 = .ok (.iload_n 2, 1) := by decide +kernel
theorem dX12_comesTold_244 : decode cX12_comesTold 244 = .ok (.invokevirtual 181, 3) := by decide +kernel
theorem dX12_comesTold_247 : decode cX12_comesTold 247 = .ok (.ifCond .eq 14, 3) := by decide +kernel
theorem dX12_comesTold_250 : decode cX12_comesTold 250 = .ok (.iload_n 3, 1) := by decide +kernel
theorem dX12_comesTold_251 : decode cX12_comesTold 251 = .ok (.invokestatic 169, 3) := by decide +kernel
theorem dX12_comesTold_254 : decode cX12_comesTold 254 = .ok (.ifCond .eq 7, 3) := by decide +kernel
theorem dX12_comesTold_257 : decode cX12_comesTold 257 = .ok (.iconst 1, 1) := by decide +kernel
theorem dX12_comesTold_258 : decode cX12_comesTold 258 = .ok (.goto 4, 3) := by decide +kernel
theorem dX12_comesTold_261 : decode cX12_comesTold 261 = .ok (.iconst 0, 1) := by decide +kernel
theorem dX12_comesTold_262 : decode cX12_comesTold 262 = .ok (.istore 5, 2) := by decide +kernel
theorem dX12_comesTold_264 : decode cX12_comesTold 264 = .ok (.iload 5, 2) := by decide +kernel
theorem dX12_comesTold_266 : decode cX12_comesTold 266 = .ok (.ifCond .eq 10, 3) := by decide +kernel
theorem dX12_comesTold_269 : decode cX12_comesTold 269 = .ok (.aload_n 0, 1) := by decide +kernel
theorem dX12_comesTold_270 : decode cX12_comesTold 270 = .ok (.getfield 25, 3) := by decide +kernel
theorem dX12_comesTold_273 : decode cX12_comesTold 273 = .ok (.iload_n 2, 1) := by decide +kernel
theorem dX12_comesTold_274 : decode cX12_comesTold 274 = .ok (.iload_n 3, 1) := by decide +kernel
theorem dX12_comesTold_275 : decode cX12_comesTold 275 = .ok (.iastore, 1) := by decide +kernel
theorem dX12_comesTold_276 : decode cX12_comesTold 276 = .ok (.iload 5, 2) := by decide +kernel
theorem dX12_comesTold_278 : decode cX12_comesTold 278 = .ok (.ireturn, 1) := by decide +kernel
theorem dX12_comesTold_279 : decode cX12_comesTold 279 = .ok (.aload_n 0, 1) := by decide +kernel
theorem dX12_comesTold_280 : decode cX12_comesTold 280 = .ok (.iload_n 2, 1) := by decide +kernel
theorem dX12_comesTold_281 : decode cX12_comesTold 281 = .ok (.invokevirtual 184, 3) := by decide +kernel
theorem dX12_comesTold_284 : decode cX12_comesTold 284 = .ok (.ireturn, 1) := by decide +kernel
theorem dX12_town_0 : decode cX12_town 0 = .ok (.aload_n 0, 1) := by decide +kernel
theorem dX12_town_1 : decode cX12_town 1 = .ok (.iconst 0, 1) := by decide +kernel
theorem dX12_town_2 : decode cX12_town 2 = .ok (.putfield 77, 3) := by decide +kernel
theorem dX12_town_5 : decode cX12_town 5 = .ok (.aload_n 0, 1) := by decide +kernel
theorem dX12_town_6 : decode cX12_town 6 = .ok (.iload_n 1, 1) := by decide +kernel
theorem dX12_town_7 : decode cX12_town 7 = .ok (.invokevirtual 187, 3) := by decide +kernel
theorem dX12_town_10 : decode cX12_town 10 = .ok (.istore_n 2, 1) := by decide +kernel
theorem dX12_town_11 : decode cX12_town 11 = .ok (.iload_n 2, 1) := by decide +kernel
theorem dX12_town_12 : decode cX12_town 12 = .ok (.ifCond .ne 17, 3) := by decide +kernel
theorem dX12_town_15 : decode cX12_town 15 = .ok (.aload_n 0, 1) := by decide +kernel
theorem dX12_town_16 : decode cX12_town 16 = .ok (.getfield 40, 3) := by decide +kernel
theorem dX12_town_19 : decode cX12_town 19 = .ok (.iload_n 1, 1) := by decide +kernel
theorem dX12_town_20 : decode cX12_town 20 = .ok (.iaload, 1) := by decide +kernel
theorem dX12_town_21 : decode cX12_town 21 = .ok (.ifCond .eq 8, 3) := by decide +kernel
theorem dX12_town_24 : decode cX12_town 24 = .ok (.bipush (-12), 2) := by decide +kernel
theorem dX12_town_26 : decode cX12_town 26 = .ok (.goto 4, 3) := by decide +kernel
theorem dX12_town_29 : decode cX12_town 29 = .ok (.iload_n 2, 1) := by decide +kernel
theorem dX12_town_30 : decode cX12_town 30 = .ok (.istore_n 2, 1) := by decide +kernel
theorem dX12_town_31 : decode cX12_town 31 = .ok (.iload_n 2, 1) := by decide +kernel
theorem dX12_town_32 : decode cX12_town 32 = .ok (.ifCond .ge 5, 3) := by decide +kernel
theorem dX12_town_35 : decode cX12_town 35 = .ok (.iload_n 2, 1) := by decide +kernel
theorem dX12_town_36 : decode cX12_town 36 = .ok (.ireturn, 1) := by decide +kernel
theorem dX12_town_37 : decode cX12_town 37 = .ok (.aload_n 0, 1) := by decide +kernel
theorem dX12_town_38 : decode cX12_town 38 = .ok (.iload_n 1, 1) := by decide +kernel
theorem dX12_town_39 : decode cX12_town 39 = .ok (.putfield 141, 3) := by decide +kernel
theorem dX12_town_42 : decode cX12_town 42 = .ok (.aload_n 0, 1) := by decide +kernel
theorem dX12_town_43 : decode cX12_town 43 = .ok (.iconst 0, 1) := by decide +kernel
theorem dX12_town_44 : decode cX12_town 44 = .ok (.putfield 138, 3) := by decide +kernel
theorem dX12_town_47 : decode cX12_town 47 = .ok (.aload_n 0, 1) := by decide +kernel
theorem dX12_town_48 : decode cX12_town 48 = .ok (.iconst 0, 1) := by decide +kernel
theorem dX12_town_49 : decode cX12_town 49 = .ok (.putfield 144, 3) := by decide +kernel
theorem dX12_town_52 : decode cX12_town 52 = .ok (.aload_n 0, 1) := by decide +kernel
theorem dX12_town_53 : decode cX12_town 53 = .ok (.iconst 0, 1) := by decide +kernel
theorem dX12_town_54 : decode cX12_town 54 = .ok (.putfield 159, 3) := by decide +kernel
theorem dX12_town_57 : decode cX12_town 57 = .ok (.aload_n 0, 1) := by decide +kernel
theorem dX12_town_58 : decode cX12_town 58 = .ok (.getfield 144, 3) := by decide +kernel
theorem dX12_town_61 : decode cX12_town 61 = .ok (.ifCond .ne 30, 3) := by decide +kernel
theorem dX12_town_64 : decode cX12_town 64 = .ok (.aload_n 0, 1) := by decide +kernel
theorem dX12_town_65 : decode cX12_town 65 = .ok (.getfield 159, 3) := by decide +kernel
theorem dX12_town_68 : decode cX12_town 68 = .ok (.ifCond .eq 16, 3) := by decide +kernel
theorem dX12_town_71 : decode cX12_town 71 = .ok (.aload_n 0, 1) := by decide +kernel
theorem dX12_town_72 : decode cX12_town 72 = .ok (.getfield 138, 3) := by decide +kernel
theorem dX12_town_75 : decode cX12_town 75 = .ok (.aload_n 0, 1) := by decide +kernel
theorem dX12_town_76 : decode cX12_town 76 = .ok (.getfield 43, 3) := by decide +kernel
theorem dX12_town_79 : decode cX12_town 79 = .ok (.iload_n 1, 1) := by decide +kernel
theorem dX12_town_80 : decode cX12_town 80 = .ok (.iaload, 1) := by decide +kernel
theorem dX12_town_81 : decode cX12_town 81 = .ok (.if_icmp .ge 10, 3) := by decide +kernel
theorem dX12_town_84 : decode cX12_town 84 = .ok (.aload_n 0, 1) := by decide +kernel
theorem dX12_town_85 : decode cX12_town 85 = .ok (.invokevirtual 190, 3) := by decide +kernel
theorem dX12_town_88 : decode cX12_town 88 = .ok (.goto (-31), 3) := by decide +kernel
theorem dX12_town_91 : decode cX12_town 91 = .ok (.aload_n 0, 1) := by decide +kernel
theorem dX12_town_92 : decode cX12_town 92 = .ok (.getfield 144, 3) := by decide +kernel
theorem dX12_town_95 : decode cX12_town 95 = .ok (.ifCond .eq 12, 3) := by decide +kernel
theorem dX12_town_98 : decode cX12_town 98 = .ok (.sipush (-1000), 3) := by decide +kernel
theorem dX12_town_101 : decode cX12_town 101 = .ok (.aload_n 0, 1) := by decide +kernel
theorem dX12_town_102 : decode cX12_town 102 = .ok (.getfield 138, 3) := by decide +kernel
theorem dX12_town_105 : decode cX12_town 105 = .ok (.isub, 1) := by decide +kernel
theorem dX12_town_106 : decode cX12_town 106 = .ok (.ireturn, 1) := by decide +kernel
theorem dX12_town_107 : decode cX12_town 107 = .ok (.aload_n 0, 1) := by decide +kernel
theorem dX12_town_108 : decode cX12_town 108 = .ok (.invokevirtual 193, 3) := by decide +kernel
theorem dX12_town_111 : decode cX12_town 111 = .ok (.iconst 0, 1) := by decide +kernel
theorem dX12_town_112 : decode cX12_town 112 = .ok (.istore_n 3, 1) := by decide +kernel
theorem dX12_town_113 : decode cX12_town 113 = .ok (.iload_n 3, 1) := by decide +kernel
theorem dX12_town_114 : decode cX12_town 114 = .ok (.aload_n 0, 1) := by decide +kernel
theorem dX12_town_115 : decode cX12_town 115 = .ok (.getfield 159, 3) := by decide +kernel
theorem dX12_town_118 : decode cX12_town 118 = .ok (.if_icmp .ge 32, 3) := by decide +kernel
theorem dX12_town_121 : decode cX12_town 121 = .ok (.aload_n 0, 1) := by decide +kernel
theorem dX12_town_122 : decode cX12_town 122 = .ok (.iload_n 3, 1) := by decide +kernel
theorem dX12_town_123 : decode cX12_town 123 = .ok (.invokevirtual 196, 3) := by decide +kernel
theorem dX12_town_126 : decode cX12_town 126 = .ok (.ifCond .ne 18, 3) := by decide +kernel
theorem dX12_town_129 : decode cX12_town 129 = .ok (.aload_n 0, 1) := by decide +kernel
theorem dX12_town_130 : decode cX12_town 130 = .ok (.invokevirtual 199, 3) := by decide +kernel
theorem dX12_town_133 : decode cX12_town 133 = .ok (.sipush (-2000), 3) := by decide +kernel
theorem dX12_town_136 : decode cX12_town 136 = .ok (.aload_n 0, 1) := by decide +kernel
theorem dX12_town_137 : decode cX12_town 137 = .ok (.getfield 50, 3) := by decide +kernel
theorem dX12_town_140 : decode cX12_town 140 = .ok (.iload_n 3, 1) := by decide +kernel
theorem dX12_town_141 : decode cX12_town 141 = .ok (.iaload, 1) := by decide +kernel
theorem dX12_town_142 : decode cX12_town 142 = .ok (.isub, 1) := by decide +kernel
theorem dX12_town_143 : decode cX12_town 143 = .ok (.ireturn, 1) := by decide +kernel
theorem dX12_town_144 : decode cX12_town 144 = .ok (.iinc 3 1, 3) := by decide +kernel
theorem dX12_town_147 : decode cX12_town 147 = .ok (.goto (-34), 3) := by decide +kernel
theorem dX12_town_150 : decode cX12_town 150 = .ok (.aload_n 0, 1) := by decide +kernel
theorem dX12_town_151 : decode cX12_town 151 = .ok (.getfield 159, 3) := by decide +kernel
theorem dX12_town_154 : decode cX12_town 154 = .ok (.ireturn, 1) := by decide +kernel
theorem dX12_carry_0 : decode cX12_carry 0 = .ok (.aload_n 0, 1) := by decide +kernel
theorem dX12_carry_1 : decode cX12_carry 1 = .ok (.getfield 202, 3) := by decide +kernel
theorem dX12_carry_4 : decode cX12_carry 4 = .ok (.ifCond .eq 13, 3) := by decide +kernel
theorem dX12_carry_7 : decode cX12_carry 7 = .ok (.aload_n 0, 1) := by decide +kernel
theorem dX12_carry_8 : decode cX12_carry 8 = .ok (.getfield 205, 3) := by decide +kernel
theorem dX12_carry_11 : decode cX12_carry 11 = .ok (.aload_n 0, 1) := by decide +kernel
theorem dX12_carry_12 : decode cX12_carry 12 = .ok (.getfield 208, 3) := by decide +kernel
theorem dX12_carry_15 : decode cX12_carry 15 = .ok (.iload_n 1, 1) := by decide +kernel
theorem dX12_carry_16 : decode cX12_carry 16 = .ok (.iastore, 1) := by decide +kernel
theorem dX12_carry_17 : decode cX12_carry 17 = .ok (.aload_n 0, 1) := by decide +kernel
theorem dX12_carry_18 : decode cX12_carry 18 = .ok (.dup, 1) := by decide +kernel
theorem dX12_carry_19 : decode cX12_carry 19 = .ok (.getfield 208, 3) := by decide +kernel
theorem dX12_carry_22 : decode cX12_carry 22 = .ok (.iconst 1, 1) := by decide +kernel
theorem dX12_carry_23 : decode cX12_carry 23 = .ok (.iadd, 1) := by decide +kernel
theorem dX12_carry_24 : decode cX12_carry 24 = .ok (.putfield 208, 3) := by decide +kernel
theorem dX12_carry_27 : decode cX12_carry 27 = .ok (.aload_n 0, 1) := by decide +kernel
theorem dX12_carry_28 : decode cX12_carry 28 = .ok (.getfield 205, 3) := by decide +kernel
theorem dX12_carry_31 : decode cX12_carry 31 = .ok (.aload_n 0, 1) := by decide +kernel
theorem dX12_carry_32 : decode cX12_carry 32 = .ok (.getfield 208, 3) := by decide +kernel
theorem dX12_carry_35 : decode cX12_carry 35 = .ok (.iconst 1, 1) := by decide +kernel
theorem dX12_carry_36 : decode cX12_carry 36 = .ok (.isub, 1) := by decide +kernel
theorem dX12_carry_37 : decode cX12_carry 37 = .ok (.iaload, 1) := by decide +kernel
theorem dX12_carry_38 : decode cX12_carry 38 = .ok (.ireturn, 1) := by decide +kernel
theorem dX12_carryAll_0 : decode cX12_carryAll 0 = .ok (.aload_n 0, 1) := by decide +kernel
theorem dX12_carryAll_1 : decode cX12_carryAll 1 = .ok (.aload_n 1, 1) := by decide +kernel
theorem dX12_carryAll_2 : decode cX12_carryAll 2 = .ok (.putfield 205, 3) := by decide +kernel
theorem dX12_carryAll_5 : decode cX12_carryAll 5 = .ok (.aload_n 0, 1) := by decide +kernel
theorem dX12_carryAll_6 : decode cX12_carryAll 6 = .ok (.iload_n 2, 1) := by decide +kernel
theorem dX12_carryAll_7 : decode cX12_carryAll 7 = .ok (.putfield 202, 3) := by decide +kernel
theorem dX12_carryAll_10 : decode cX12_carryAll 10 = .ok (.aload_n 0, 1) := by decide +kernel
theorem dX12_carryAll_11 : decode cX12_carryAll 11 = .ok (.iconst 0, 1) := by decide +kernel
theorem dX12_carryAll_12 : decode cX12_carryAll 12 = .ok (.putfield 208, 3) := by decide +kernel
theorem dX12_carryAll_15 : decode cX12_carryAll 15 = .ok (.aload_n 0, 1) := by decide +kernel
theorem dX12_carryAll_16 : decode cX12_carryAll 16 = .ok (.aload_n 0, 1) := by decide +kernel
theorem dX12_carryAll_17 : decode cX12_carryAll 17 = .ok (.aload_n 0, 1) := by decide +kernel
theorem dX12_carryAll_18 : decode cX12_carryAll 18 = .ok (.getfield 87, 3) := by decide +kernel
theorem dX12_carryAll_21 : decode cX12_carryAll 21 = .ok (.invokevirtual 211, 3) := by decide +kernel
theorem dX12_carryAll_24 : decode cX12_carryAll 24 = .ok (.putfield 87, 3) := by decide +kernel
theorem dX12_carryAll_27 : decode cX12_carryAll 27 = .ok (.aload_n 0, 1) := by decide +kernel
theorem dX12_carryAll_28 : decode cX12_carryAll 28 = .ok (.aload_n 0, 1) := by decide +kernel
theorem dX12_carryAll_29 : decode cX12_carryAll 29 = .ok (.aload_n 0, 1) := by decide +kernel
theorem dX12_carryAll_30 : decode cX12_carryAll 30 = .ok (.getfield 113, 3) := by decide +kernel
theorem dX12_carryAll_33 : decode cX12_carryAll 33 = .ok (.invokevirtual 211, 3) := by decide +kernel
theorem dX12_carryAll_36 : decode cX12_carryAll 36 = .ok (.putfield 113, 3) := by decide +kernel
theorem dX12_carryAll_39 : decode cX12_carryAll 39 = .ok (.iconst 0, 1) := by decide +kernel
theorem dX12_carryAll_40 : decode cX12_carryAll 40 = .ok (.istore_n 3, 1) := by decide +kernel
theorem dX12_carryAll_41 : decode cX12_carryAll 41 = .ok (.iload_n 3, 1) := by decide +kernel
theorem dX12_carryAll_42 : decode cX12_carryAll 42 = .ok (.iconst 5, 1) := by decide +kernel
theorem dX12_carryAll_43 : decode cX12_carryAll 43 = .ok (.if_icmp .ge 57, 3) := by decide +kernel
theorem dX12_carryAll_46 : decode cX12_carryAll 46 = .ok (.aload_n 0, 1) := by decide +kernel
theorem dX12_carryAll_47 : decode cX12_carryAll 47 = .ok (.getfield 7, 3) := by decide +kernel
theorem dX12_carryAll_50 : decode cX12_carryAll 50 = .ok (.iload_n 3, 1) := by decide +kernel
theorem dX12_carryAll_51 : decode cX12_carryAll 51 = .ok (.aload_n 0, 1) := by decide +kernel
theorem dX12_carryAll_52 : decode cX12_carryAll 52 = .ok (.aload_n 0, 1) := by decide +kernel
theorem dX12_carryAll_53 : decode cX12_carryAll 53 = .ok (.getfield 7, 3) := by decide +kernel
theorem dX12_carryAll_56 : decode cX12_carryAll 56 = .ok (.iload_n 3, 1) := by decide +kernel
theorem dX12_carryAll_57 : decode cX12_carryAll 57 = .ok (.iaload, 1) := by decide +kernel
theorem dX12_carryAll_58 : decode cX12_carryAll 58 = .ok (.invokevirtual 211, 3) := by decide +kernel
theorem dX12_carryAll_61 : decode cX12_carryAll 61 = .ok (.iastore, 1) := by decide +kernel
theorem dX12_carryAll_62 : decode cX12_carryAll 62 = .ok (.aload_n 0, 1) := by decide +kernel
theorem dX12_carryAll_63 : decode cX12_carryAll 63 = .ok (.getfield 13, 3) := by decide +kernel
theorem dX12_carryAll_66 : decode cX12_carryAll 66 = .ok (.iload_n 3, 1) := by decide +kernel
theorem dX12_carryAll_67 : decode cX12_carryAll 67 = .ok (.aload_n 0, 1) := by decide +kernel
theorem dX12_carryAll_68 : decode cX12_carryAll 68 = .ok (.aload_n 0, 1) := by decide +kernel
theorem dX12_carryAll_69 : decode cX12_carryAll 69 = .ok (.getfield 13, 3) := by decide +kernel
theorem dX12_carryAll_72 : decode cX12_carryAll 72 = .ok (.iload_n 3, 1) := by decide +kernel
theorem dX12_carryAll_73 : decode cX12_carryAll 73 = .ok (.iaload, 1) := by decide +kernel
theorem dX12_carryAll_74 : decode cX12_carryAll 74 = .ok (.invokevirtual 211, 3) := by decide +kernel
theorem dX12_carryAll_77 : decode cX12_carryAll 77 = .ok (.iastore, 1) := by decide +kernel
theorem dX12_carryAll_78 : decode cX12_carryAll 78 = .ok (.aload_n 0, 1) := by decide +kernel
theorem dX12_carryAll_79 : decode cX12_carryAll 79 = .ok (.getfield 16, 3) := by decide +kernel
theorem dX12_carryAll_82 : decode cX12_carryAll 82 = .ok (.iload_n 3, 1) := by decide +kernel
theorem dX12_carryAll_83 : decode cX12_carryAll 83 = .ok (.aload_n 0, 1) := by decide +kernel
theorem dX12_carryAll_84 : decode cX12_carryAll 84 = .ok (.aload_n 0, 1) := by decide +kernel
theorem dX12_carryAll_85 : decode cX12_carryAll 85 = .ok (.getfield 16, 3) := by decide +kernel
theorem dX12_carryAll_88 : decode cX12_carryAll 88 = .ok (.iload_n 3, 1) := by decide +kernel
theorem dX12_carryAll_89 : decode cX12_carryAll 89 = .ok (.iaload, 1) := by decide +kernel
theorem dX12_carryAll_90 : decode cX12_carryAll 90 = .ok (.invokevirtual 211, 3) := by decide +kernel
theorem dX12_carryAll_93 : decode cX12_carryAll 93 = .ok (.iastore, 1) := by decide +kernel
theorem dX12_carryAll_94 : decode cX12_carryAll 94 = .ok (.iinc 3 1, 3) := by decide +kernel
theorem dX12_carryAll_97 : decode cX12_carryAll 97 = .ok (.goto (-56), 3) := by decide +kernel
theorem dX12_carryAll_100 : decode cX12_carryAll 100 = .ok (.iconst 0, 1) := by decide +kernel
theorem dX12_carryAll_101 : decode cX12_carryAll 101 = .ok (.istore_n 3, 1) := by decide +kernel
theorem dX12_carryAll_102 : decode cX12_carryAll 102 = .ok (.iload_n 3, 1) := by decide +kernel
theorem dX12_carryAll_103 : decode cX12_carryAll 103 = .ok (.bipush 7, 2) := by decide +kernel
theorem dX12_carryAll_105 : decode cX12_carryAll 105 = .ok (.if_icmp .ge 57, 3) := by decide +kernel
theorem dX12_carryAll_108 : decode cX12_carryAll 108 = .ok (.aload_n 0, 1) := by decide +kernel
theorem dX12_carryAll_109 : decode cX12_carryAll 109 = .ok (.getfield 19, 3) := by decide +kernel
theorem dX12_carryAll_112 : decode cX12_carryAll 112 = .ok (.iload_n 3, 1) := by decide +kernel
theorem dX12_carryAll_113 : decode cX12_carryAll 113 = .ok (.aload_n 0, 1) := by decide +kernel
theorem dX12_carryAll_114 : decode cX12_carryAll 114 = .ok (.aload_n 0, 1) := by decide +kernel
theorem dX12_carryAll_115 : decode cX12_carryAll 115 = .ok (.getfield 19, 3) := by decide +kernel
theorem dX12_carryAll_118 : decode cX12_carryAll 118 = .ok (.iload_n 3, 1) := by decide +kernel
theorem dX12_carryAll_119 : decode cX12_carryAll 119 = .ok (.iaload, 1) := by decide +kernel
theorem dX12_carryAll_120 : decode cX12_carryAll 120 = .ok (.invokevirtual 211, 3) := by decide +kernel
theorem dX12_carryAll_123 : decode cX12_carryAll 123 = .ok (.iastore, 1) := by decide +kernel
theorem dX12_carryAll_124 : decode cX12_carryAll 124 = .ok (.aload_n 0, 1) := by decide +kernel
theorem dX12_carryAll_125 : decode cX12_carryAll 125 = .ok (.getfield 22, 3) := by decide +kernel
theorem dX12_carryAll_128 : decode cX12_carryAll 128 = .ok (.iload_n 3, 1) := by decide +kernel
theorem dX12_carryAll_129 : decode cX12_carryAll 129 = .ok (.aload_n 0, 1) := by decide +kernel
theorem dX12_carryAll_130 : decode cX12_carryAll 130 = .ok (.aload_n 0, 1) := by decide +kernel
theorem dX12_carryAll_131 : decode cX12_carryAll 131 = .ok (.getfield 22, 3) := by decide +kernel
theorem dX12_carryAll_134 : decode cX12_carryAll 134 = .ok (.iload_n 3, 1) := by decide +kernel
theorem dX12_carryAll_135 : decode cX12_carryAll 135 = .ok (.iaload, 1) := by decide +kernel
theorem dX12_carryAll_136 : decode cX12_carryAll 136 = .ok (.invokevirtual 211, 3) := by decide +kernel
theorem dX12_carryAll_139 : decode cX12_carryAll 139 = .ok (.iastore, 1) := by decide +kernel
theorem dX12_carryAll_140 : decode cX12_carryAll 140 = .ok (.aload_n 0, 1) := by decide +kernel
theorem dX12_carryAll_141 : decode cX12_carryAll 141 = .ok (.getfield 25, 3) := by decide +kernel
theorem dX12_carryAll_144 : decode cX12_carryAll 144 = .ok (.iload_n 3, 1) := by decide +kernel
theorem dX12_carryAll_145 : decode cX12_carryAll 145 = .ok (.aload_n 0, 1) := by decide +kernel
theorem dX12_carryAll_146 : decode cX12_carryAll 146 = .ok (.aload_n 0, 1) := by decide +kernel
theorem dX12_carryAll_147 : decode cX12_carryAll 147 = .ok (.getfield 25, 3) := by decide +kernel
theorem dX12_carryAll_150 : decode cX12_carryAll 150 = .ok (.iload_n 3, 1) := by decide +kernel
theorem dX12_carryAll_151 : decode cX12_carryAll 151 = .ok (.iaload, 1) := by decide +kernel
theorem dX12_carryAll_152 : decode cX12_carryAll 152 = .ok (.invokevirtual 211, 3) := by decide +kernel
theorem dX12_carryAll_155 : decode cX12_carryAll 155 = .ok (.iastore, 1) := by decide +kernel
theorem dX12_carryAll_156 : decode cX12_carryAll 156 = .ok (.iinc 3 1, 3) := by decide +kernel
theorem dX12_carryAll_159 : decode cX12_carryAll 159 = .ok (.goto (-57), 3) := by decide +kernel
theorem dX12_carryAll_162 : decode cX12_carryAll 162 = .ok (.iconst 0, 1) := by decide +kernel
theorem dX12_carryAll_163 : decode cX12_carryAll 163 = .ok (.istore_n 3, 1) := by decide +kernel
theorem dX12_carryAll_164 : decode cX12_carryAll 164 = .ok (.iload_n 3, 1) := by decide +kernel
theorem dX12_carryAll_165 : decode cX12_carryAll 165 = .ok (.bipush 35, 2) := by decide +kernel
theorem dX12_carryAll_167 : decode cX12_carryAll 167 = .ok (.if_icmp .ge 25, 3) := by decide +kernel
theorem dX12_carryAll_170 : decode cX12_carryAll 170 = .ok (.aload_n 0, 1) := by decide +kernel
theorem dX12_carryAll_171 : decode cX12_carryAll 171 = .ok (.getfield 28, 3) := by decide +kernel
theorem dX12_carryAll_174 : decode cX12_carryAll 174 = .ok (.iload_n 3, 1) := by decide +kernel
theorem dX12_carryAll_175 : decode cX12_carryAll 175 = .ok (.aload_n 0, 1) := by decide +kernel
theorem dX12_carryAll_176 : decode cX12_carryAll 176 = .ok (.aload_n 0, 1) := by decide +kernel
theorem dX12_carryAll_177 : decode cX12_carryAll 177 = .ok (.getfield 28, 3) := by decide +kernel
theorem dX12_carryAll_180 : decode cX12_carryAll 180 = .ok (.iload_n 3, 1) := by decide +kernel
theorem dX12_carryAll_181 : decode cX12_carryAll 181 = .ok (.iaload, 1) := by decide +kernel
theorem dX12_carryAll_182 : decode cX12_carryAll 182 = .ok (.invokevirtual 211, 3) := by decide +kernel
theorem dX12_carryAll_185 : decode cX12_carryAll 185 = .ok (.iastore, 1) := by decide +kernel
theorem dX12_carryAll_186 : decode cX12_carryAll 186 = .ok (.iinc 3 1, 3) := by decide +kernel
theorem dX12_carryAll_189 : decode cX12_carryAll 189 = .ok (.goto (-25), 3) := by decide +kernel
theorem dX12_carryAll_192 : decode cX12_carryAll 192 = .ok (.return_, 1) := by decide +kernel
theorem dX12_think_0 : decode cX12_think 0 = .ok (.aload_n 0, 1) := by decide +kernel
theorem dX12_think_1 : decode cX12_think 1 = .ok (.aload_n 0, 1) := by decide +kernel
theorem dX12_think_2 : decode cX12_think 2 = .ok (.getfield 59, 3) := by decide +kernel
theorem dX12_think_5 : decode cX12_think 5 = .ok (.iconst 1, 1) := by decide +kernel
theorem dX12_think_6 : decode cX12_think 6 = .ok (.invokevirtual 214, 3) := by decide +kernel
theorem dX12_think_9 : decode cX12_think 9 = .ok (.return_, 1) := by decide +kernel
theorem dX12_again_0 : decode cX12_again 0 = .ok (.aload_n 0, 1) := by decide +kernel
theorem dX12_again_1 : decode cX12_again 1 = .ok (.aload_n 0, 1) := by decide +kernel
theorem dX12_again_2 : decode cX12_again 2 = .ok (.getfield 59, 3) := by decide +kernel
theorem dX12_again_5 : decode cX12_again 5 = .ok (.iconst 0, 1) := by decide +kernel
theorem dX12_again_6 : decode cX12_again 6 = .ok (.invokevirtual 214, 3) := by decide +kernel
theorem dX12_again_9 : decode cX12_again 9 = .ok (.return_, 1) := by decide +kernel
theorem dX12_image_0 : decode cX12_image 0 = .ok (.aload_n 0, 1) := by decide +kernel
theorem dX12_image_1 : decode cX12_image 1 = .ok (.iconst 0, 1) := by decide +kernel
theorem dX12_image_2 : decode cX12_image 2 = .ok (.putfield 77, 3) := by decide +kernel
theorem dX12_image_5 : decode cX12_image 5 = .ok (.aload_n 0, 1) := by decide +kernel
theorem dX12_image_6 : decode cX12_image 6 = .ok (.iconst 1, 1) := by decide +kernel
theorem dX12_image_7 : decode cX12_image 7 = .ok (.putfield 218, 3) := by decide +kernel
theorem dX12_image_10 : decode cX12_image 10 = .ok (.aload_n 0, 1) := by decide +kernel
theorem dX12_image_11 : decode cX12_image 11 = .ok (.aload_n 0, 1) := by decide +kernel
theorem dX12_image_12 : decode cX12_image 12 = .ok (.getfield 62, 3) := by decide +kernel
theorem dX12_image_15 : decode cX12_image 15 = .ok (.iconst 1, 1) := by decide +kernel
theorem dX12_image_16 : decode cX12_image 16 = .ok (.invokevirtual 214, 3) := by decide +kernel
theorem dX12_image_19 : decode cX12_image 19 = .ok (.aload_n 0, 1) := by decide +kernel
theorem dX12_image_20 : decode cX12_image 20 = .ok (.getfield 113, 3) := by decide +kernel
theorem dX12_image_23 : decode cX12_image 23 = .ok (.ireturn, 1) := by decide +kernel
theorem dX12_restore_0 : decode cX12_restore 0 = .ok (.aload_n 0, 1) := by decide +kernel
theorem dX12_restore_1 : decode cX12_restore 1 = .ok (.iconst 0, 1) := by decide +kernel
theorem dX12_restore_2 : decode cX12_restore 2 = .ok (.putfield 77, 3) := by decide +kernel
theorem dX12_restore_5 : decode cX12_restore 5 = .ok (.aload_n 0, 1) := by decide +kernel
theorem dX12_restore_6 : decode cX12_restore 6 = .ok (.getfield 218, 3) := by decide +kernel
theorem dX12_restore_9 : decode cX12_restore 9 = .ok (.ifCond .ne 6, 3) := by decide +kernel
theorem dX12_restore_12 : decode cX12_restore 12 = .ok (.bipush (-3), 2) := by decide +kernel
theorem dX12_restore_14 : decode cX12_restore 14 = .ok (.ireturn, 1) := by decide +kernel
theorem dX12_restore_15 : decode cX12_restore 15 = .ok (.aload_n 0, 1) := by decide +kernel
theorem dX12_restore_16 : decode cX12_restore 16 = .ok (.aload_n 0, 1) := by decide +kernel
theorem dX12_restore_17 : decode cX12_restore 17 = .ok (.getfield 62, 3) := by decide +kernel
theorem dX12_restore_20 : decode cX12_restore 20 = .ok (.iconst 0, 1) := by decide +kernel
theorem dX12_restore_21 : decode cX12_restore 21 = .ok (.invokevirtual 214, 3) := by decide +kernel
theorem dX12_restore_24 : decode cX12_restore 24 = .ok (.aload_n 0, 1) := by decide +kernel
theorem dX12_restore_25 : decode cX12_restore 25 = .ok (.getfield 113, 3) := by decide +kernel
theorem dX12_restore_28 : decode cX12_restore 28 = .ok (.ireturn, 1) := by decide +kernel
theorem dX12_one_0 : decode cX12_one 0 = .ok (.aload_n 0, 1) := by decide +kernel
theorem dX12_one_1 : decode cX12_one 1 = .ok (.iconst 0, 1) := by decide +kernel
theorem dX12_one_2 : decode cX12_one 2 = .ok (.putfield 77, 3) := by decide +kernel
theorem dX12_one_5 : decode cX12_one 5 = .ok (.aload_n 0, 1) := by decide +kernel
theorem dX12_one_6 : decode cX12_one 6 = .ok (.iload_n 1, 1) := by decide +kernel
theorem dX12_one_7 : decode cX12_one 7 = .ok (.invokevirtual 181, 3) := by decide +kernel
theorem dX12_one_10 : decode cX12_one 10 = .ok (.ifCond .eq 15, 3) := by decide +kernel
theorem dX12_one_13 : decode cX12_one 13 = .ok (.iload_n 2, 1) := by decide +kernel
theorem dX12_one_14 : decode cX12_one 14 = .ok (.i2l, 1) := by decide +kernel
theorem dX12_one_15 : decode cX12_one 15 = .ok (.lconst 0, 1) := by decide +kernel
theorem dX12_one_16 : decode cX12_one 16 = .ok (.ldc2_w 81, 3) := by decide +kernel
theorem dX12_one_19 : decode cX12_one 19 = .ok (.invokestatic 83, 3) := by decide +kernel
theorem dX12_one_22 : decode cX12_one 22 = .ok (.ifCond .ne 5, 3) := by decide +kernel
theorem dX12_one_25 : decode cX12_one 25 = .ok (.iconst (-1), 1) := by decide +kernel
theorem dX12_one_26 : decode cX12_one 26 = .ok (.ireturn, 1) := by decide +kernel
theorem dX12_one_27 : decode cX12_one 27 = .ok (.iload_n 2, 1) := by decide +kernel
theorem dX12_one_28 : decode cX12_one 28 = .ok (.tableswitch 59 0 3 #[32, 39, 46, 53], 32) := by decide +kernel
theorem dX12_one_60 : decode cX12_one 60 = .ok (.aload_n 0, 1) := by decide +kernel
theorem dX12_one_61 : decode cX12_one 61 = .ok (.getfield 19, 3) := by decide +kernel
theorem dX12_one_64 : decode cX12_one 64 = .ok (.iload_n 1, 1) := by decide +kernel
theorem dX12_one_65 : decode cX12_one 65 = .ok (.iaload, 1) := by decide +kernel
theorem dX12_one_66 : decode cX12_one 66 = .ok (.ireturn, 1) := by decide +kernel
theorem dX12_one_67 : decode cX12_one 67 = .ok (.aload_n 0, 1) := by decide +kernel
theorem dX12_one_68 : decode cX12_one 68 = .ok (.getfield 22, 3) := by decide +kernel
theorem dX12_one_71 : decode cX12_one 71 = .ok (.iload_n 1, 1) := by decide +kernel
theorem dX12_one_72 : decode cX12_one 72 = .ok (.iaload, 1) := by decide +kernel
theorem dX12_one_73 : decode cX12_one 73 = .ok (.ireturn, 1) := by decide +kernel
theorem dX12_one_74 : decode cX12_one 74 = .ok (.aload_n 0, 1) := by decide +kernel
theorem dX12_one_75 : decode cX12_one 75 = .ok (.getfield 25, 3) := by decide +kernel
theorem dX12_one_78 : decode cX12_one 78 = .ok (.iload_n 1, 1) := by decide +kernel
theorem dX12_one_79 : decode cX12_one 79 = .ok (.iaload, 1) := by decide +kernel
theorem dX12_one_80 : decode cX12_one 80 = .ok (.ireturn, 1) := by decide +kernel
theorem dX12_one_81 : decode cX12_one 81 = .ok (.aload_n 0, 1) := by decide +kernel
theorem dX12_one_82 : decode cX12_one 82 = .ok (.iload_n 1, 1) := by decide +kernel
theorem dX12_one_83 : decode cX12_one 83 = .ok (.invokevirtual 135, 3) := by decide +kernel
theorem dX12_one_86 : decode cX12_one 86 = .ok (.ireturn, 1) := by decide +kernel
theorem dX12_one_87 : decode cX12_one 87 = .ok (.aload_n 0, 1) := by decide +kernel
theorem dX12_one_88 : decode cX12_one 88 = .ok (.iload_n 1, 1) := by decide +kernel
theorem dX12_one_89 : decode cX12_one 89 = .ok (.aload_n 0, 1) := by decide +kernel
theorem dX12_one_90 : decode cX12_one 90 = .ok (.getfield 113, 3) := by decide +kernel
theorem dX12_one_93 : decode cX12_one 93 = .ok (.iconst 1, 1) := by decide +kernel
theorem dX12_one_94 : decode cX12_one 94 = .ok (.iadd, 1) := by decide +kernel
theorem dX12_one_95 : decode cX12_one 95 = .ok (.invokevirtual 116, 3) := by decide +kernel
theorem dX12_one_98 : decode cX12_one 98 = .ok (.ireturn, 1) := by decide +kernel
theorem dX12_orNone_0 : decode cX12_orNone 0 = .ok (.iload_n 0, 1) := by decide +kernel
theorem dX12_orNone_1 : decode cX12_orNone 1 = .ok (.bipush 9, 2) := by decide +kernel
theorem dX12_orNone_3 : decode cX12_orNone 3 = .ok (.if_icmp .ne 8, 3) := by decide +kernel
theorem dX12_orNone_6 : decode cX12_orNone 6 = .ok (.bipush (-4), 2) := by decide +kernel
theorem dX12_orNone_8 : decode cX12_orNone 8 = .ok (.goto 4, 3) := by decide +kernel
theorem dX12_orNone_11 : decode cX12_orNone 11 = .ok (.iload_n 0, 1) := by decide +kernel
theorem dX12_orNone_12 : decode cX12_orNone 12 = .ok (.ireturn, 1) := by decide +kernel
theorem dX12_thing_0 : decode cX12_thing 0 = .ok (.aload_n 0, 1) := by decide +kernel
theorem dX12_thing_1 : decode cX12_thing 1 = .ok (.iconst 0, 1) := by decide +kernel
theorem dX12_thing_2 : decode cX12_thing 2 = .ok (.putfield 77, 3) := by decide +kernel
theorem dX12_thing_5 : decode cX12_thing 5 = .ok (.iload_n 1, 1) := by decide +kernel
theorem dX12_thing_6 : decode cX12_thing 6 = .ok (.invokestatic 90, 3) := by decide +kernel
theorem dX12_thing_9 : decode cX12_thing 9 = .ok (.ifCond .eq 15, 3) := by decide +kernel
theorem dX12_thing_12 : decode cX12_thing 12 = .ok (.iload_n 2, 1) := by decide +kernel
theorem dX12_thing_13 : decode cX12_thing 13 = .ok (.i2l, 1) := by decide +kernel
theorem dX12_thing_14 : decode cX12_thing 14 = .ok (.lconst 0, 1) := by decide +kernel
theorem dX12_thing_15 : decode cX12_thing 15 = .ok (.ldc2_w 221, 3) := by decide +kernel
theorem dX12_thing_18 : decode cX12_thing 18 = .ok (.invokestatic 83, 3) := by decide +kernel
theorem dX12_thing_21 : decode cX12_thing 21 = .ok (.ifCond .ne 5, 3) := by decide +kernel
theorem dX12_thing_24 : decode cX12_thing 24 = .ok (.iconst (-1), 1) := by decide +kernel
theorem dX12_thing_25 : decode cX12_thing 25 = .ok (.ireturn, 1) := by decide +kernel
theorem dX12_thing_26 : decode cX12_thing 26 = .ok (.iload_n 2, 1) := by decide +kernel
theorem dX12_thing_27 : decode cX12_thing 27 = .ok (.ifCond .ne 12, 3) := by decide +kernel
theorem dX12_thing_30 : decode cX12_thing 30 = .ok (.aload_n 0, 1) := by decide +kernel
theorem dX12_thing_31 : decode cX12_thing 31 = .ok (.getfield 7, 3) := by decide +kernel
theorem dX12_thing_34 : decode cX12_thing 34 = .ok (.iload_n 1, 1) := by decide +kernel
theorem dX12_thing_35 : decode cX12_thing 35 = .ok (.iaload, 1) := by decide +kernel
theorem dX12_thing_36 : decode cX12_thing 36 = .ok (.goto 26, 3) := by decide +kernel
theorem dX12_thing_39 : decode cX12_thing 39 = .ok (.iload_n 2, 1) := by decide +kernel
theorem dX12_thing_40 : decode cX12_thing 40 = .ok (.iconst 1, 1) := by decide +kernel
theorem dX12_thing_41 : decode cX12_thing 41 = .ok (.if_icmp .ne 12, 3) := by decide +kernel
theorem dX12_thing_44 : decode cX12_thing 44 = .ok (.aload_n 0, 1) := by decide +kernel
theorem dX12_thing_45 : decode cX12_thing 45 = .ok (.getfield 13, 3) := by decide +kernel
theorem dX12_thing_48 : decode cX12_thing 48 = .ok (.iload_n 1, 1) := by decide +kernel
theorem dX12_thing_49 : decode cX12_thing 49 = .ok (.iaload, 1) := by decide +kernel
theorem dX12_thing_50 : decode cX12_thing 50 = .ok (.goto 12, 3) := by decide +kernel
theorem dX12_thing_53 : decode cX12_thing 53 = .ok (.aload_n 0, 1) := by decide +kernel
theorem dX12_thing_54 : decode cX12_thing 54 = .ok (.getfield 16, 3) := by decide +kernel
theorem dX12_thing_57 : decode cX12_thing 57 = .ok (.iload_n 1, 1) := by decide +kernel
theorem dX12_thing_58 : decode cX12_thing 58 = .ok (.iaload, 1) := by decide +kernel
theorem dX12_thing_59 : decode cX12_thing 59 = .ok (.invokestatic 223, 3) := by decide +kernel
theorem dX12_thing_62 : decode cX12_thing 62 = .ok (.ireturn, 1) := by decide +kernel
theorem dX12_story_0 : decode cX12_story 0 = .ok (.aload_n 0, 1) := by decide +kernel
theorem dX12_story_1 : decode cX12_story 1 = .ok (.iconst 0, 1) := by decide +kernel
theorem dX12_story_2 : decode cX12_story 2 = .ok (.putfield 77, 3) := by decide +kernel
theorem dX12_story_5 : decode cX12_story 5 = .ok (.aload_n 0, 1) := by decide +kernel
theorem dX12_story_6 : decode cX12_story 6 = .ok (.iload_n 1, 1) := by decide +kernel
theorem dX12_story_7 : decode cX12_story 7 = .ok (.invokevirtual 181, 3) := by decide +kernel
theorem dX12_story_10 : decode cX12_story 10 = .ok (.ifCond .eq 20, 3) := by decide +kernel
theorem dX12_story_13 : decode cX12_story 13 = .ok (.iload_n 2, 1) := by decide +kernel
theorem dX12_story_14 : decode cX12_story 14 = .ok (.invokestatic 90, 3) := by decide +kernel
theorem dX12_story_17 : decode cX12_story 17 = .ok (.ifCond .eq 13, 3) := by decide +kernel
theorem dX12_story_20 : decode cX12_story 20 = .ok (.iload_n 3, 1) := by decide +kernel
theorem dX12_story_21 : decode cX12_story 21 = .ok (.i2l, 1) := by decide +kernel
theorem dX12_story_22 : decode cX12_story 22 = .ok (.lconst 0, 1) := by decide +kernel
theorem dX12_story_23 : decode cX12_story 23 = .ok (.lconst 1, 1) := by decide +kernel
theorem dX12_story_24 : decode cX12_story 24 = .ok (.invokestatic 83, 3) := by decide +kernel
theorem dX12_story_27 : decode cX12_story 27 = .ok (.ifCond .ne 5, 3) := by decide +kernel
theorem dX12_story_30 : decode cX12_story 30 = .ok (.iconst (-1), 1) := by decide +kernel
theorem dX12_story_31 : decode cX12_story 31 = .ok (.ireturn, 1) := by decide +kernel
theorem dX12_story_32 : decode cX12_story 32 = .ok (.iload_n 3, 1) := by decide +kernel
theorem dX12_story_33 : decode cX12_story 33 = .ok (.ifCond .ne 16, 3) := by decide +kernel
theorem dX12_story_36 : decode cX12_story 36 = .ok (.aload_n 0, 1) := by decide +kernel
theorem dX12_story_37 : decode cX12_story 37 = .ok (.getfield 28, 3) := by decide +kernel
theorem dX12_story_40 : decode cX12_story 40 = .ok (.iconst 5, 1) := by decide +kernel
theorem dX12_story_41 : decode cX12_story 41 = .ok (.iload_n 1, 1) := by decide +kernel
theorem dX12_story_42 : decode cX12_story 42 = .ok (.imul, 1) := by decide +kernel
theorem dX12_story_43 : decode cX12_story 43 = .ok (.iload_n 2, 1) := by decide +kernel
theorem dX12_story_44 : decode cX12_story 44 = .ok (.iadd, 1) := by decide +kernel
theorem dX12_story_45 : decode cX12_story 45 = .ok (.iaload, 1) := by decide +kernel
theorem dX12_story_46 : decode cX12_story 46 = .ok (.goto 9, 3) := by decide +kernel
theorem dX12_story_49 : decode cX12_story 49 = .ok (.aload_n 0, 1) := by decide +kernel
theorem dX12_story_50 : decode cX12_story 50 = .ok (.iload_n 1, 1) := by decide +kernel
theorem dX12_story_51 : decode cX12_story 51 = .ok (.iload_n 2, 1) := by decide +kernel
theorem dX12_story_52 : decode cX12_story 52 = .ok (.invokevirtual 109, 3) := by decide +kernel
theorem dX12_story_55 : decode cX12_story 55 = .ok (.ireturn, 1) := by decide +kernel
theorem dX12_comes_0 : decode cX12_comes 0 = .ok (.aload_n 0, 1) := by decide +kernel
theorem dX12_comes_1 : decode cX12_comes 1 = .ok (.iconst 0, 1) := by decide +kernel
theorem dX12_comes_2 : decode cX12_comes 2 = .ok (.putfield 77, 3) := by decide +kernel
theorem dX12_comes_5 : decode cX12_comes 5 = .ok (.iload_n 1, 1) := by decide +kernel
theorem dX12_comes_6 : decode cX12_comes 6 = .ok (.i2l, 1) := by decide +kernel
theorem dX12_comes_7 : decode cX12_comes 7 = .ok (.lconst 0, 1) := by decide +kernel
theorem dX12_comes_8 : decode cX12_comes 8 = .ok (.ldc2_w 226, 3) := by decide +kernel
theorem dX12_comes_11 : decode cX12_comes 11 = .ok (.invokestatic 83, 3) := by decide +kernel
theorem dX12_comes_14 : decode cX12_comes 14 = .ok (.ifCond .eq 10, 3) := by decide +kernel
theorem dX12_comes_17 : decode cX12_comes 17 = .ok (.iload_n 2, 1) := by decide +kernel
theorem dX12_comes_18 : decode cX12_comes 18 = .ok (.invokestatic 169, 3) := by decide +kernel
theorem dX12_comes_21 : decode cX12_comes 21 = .ok (.ifCond .ne 5, 3) := by decide +kernel
theorem dX12_comes_24 : decode cX12_comes 24 = .ok (.iconst (-1), 1) := by decide +kernel
theorem dX12_comes_25 : decode cX12_comes 25 = .ok (.ireturn, 1) := by decide +kernel
theorem dX12_comes_26 : decode cX12_comes 26 = .ok (.aload_n 0, 1) := by decide +kernel
theorem dX12_comes_27 : decode cX12_comes 27 = .ok (.iload_n 1, 1) := by decide +kernel
theorem dX12_comes_28 : decode cX12_comes 28 = .ok (.invokevirtual 228, 3) := by decide +kernel
theorem dX12_comes_31 : decode cX12_comes 31 = .ok (.ifCond .lt 12, 3) := by decide +kernel
theorem dX12_comes_34 : decode cX12_comes 34 = .ok (.aload_n 0, 1) := by decide +kernel
theorem dX12_comes_35 : decode cX12_comes 35 = .ok (.getfield 87, 3) := by decide +kernel
theorem dX12_comes_38 : decode cX12_comes 38 = .ok (.bipush 7, 2) := by decide +kernel
theorem dX12_comes_40 : decode cX12_comes 40 = .ok (.if_icmp .ne 22, 3) := by decide +kernel
theorem dX12_comes_43 : decode cX12_comes 43 = .ok (.aload_n 0, 1) := by decide +kernel
theorem dX12_comes_44 : decode cX12_comes 44 = .ok (.iload_n 1, 1) := by decide +kernel
theorem dX12_comes_45 : decode cX12_comes 45 = .ok (.invokevirtual 228, 3) := by decide +kernel
theorem dX12_comes_48 : decode cX12_comes 48 = .ok (.ifCond .ge 11, 3) := by decide +kernel
theorem dX12_comes_51 : decode cX12_comes 51 = .ok (.aload_n 0, 1) := by decide +kernel
theorem dX12_comes_52 : decode cX12_comes 52 = .ok (.iload_n 1, 1) := by decide +kernel
theorem dX12_comes_53 : decode cX12_comes 53 = .ok (.invokevirtual 228, 3) := by decide +kernel
theorem dX12_comes_56 : decode cX12_comes 56 = .ok (.goto 5, 3) := by decide +kernel
theorem dX12_comes_59 : decode cX12_comes 59 = .ok (.bipush (-2), 2) := by decide +kernel
theorem dX12_comes_61 : decode cX12_comes 61 = .ok (.ireturn, 1) := by decide +kernel
theorem dX12_comes_62 : decode cX12_comes 62 = .ok (.aload_n 0, 1) := by decide +kernel
theorem dX12_comes_63 : decode cX12_comes 63 = .ok (.aload_n 0, 1) := by decide +kernel
theorem dX12_comes_64 : decode cX12_comes 64 = .ok (.getfield 34, 3) := by decide +kernel
theorem dX12_comes_67 : decode cX12_comes 67 = .ok (.iload_n 1, 1) := by decide +kernel
theorem dX12_comes_68 : decode cX12_comes 68 = .ok (.iaload, 1) := by decide +kernel
theorem dX12_comes_69 : decode cX12_comes 69 = .ok (.aload_n 0, 1) := by decide +kernel
theorem dX12_comes_70 : decode cX12_comes 70 = .ok (.getfield 37, 3) := by decide +kernel
theorem dX12_comes_73 : decode cX12_comes 73 = .ok (.iload_n 1, 1) := by decide +kernel
theorem dX12_comes_74 : decode cX12_comes 74 = .ok (.iaload, 1) := by decide +kernel
theorem dX12_comes_75 : decode cX12_comes 75 = .ok (.iload_n 2, 1) := by decide +kernel
theorem dX12_comes_76 : decode cX12_comes 76 = .ok (.invokevirtual 177, 3) := by decide +kernel
theorem dX12_comes_79 : decode cX12_comes 79 = .ok (.pop, 1) := by decide +kernel
theorem dX12_comes_80 : decode cX12_comes 80 = .ok (.aload_n 0, 1) := by decide +kernel
theorem dX12_comes_81 : decode cX12_comes 81 = .ok (.getfield 87, 3) := by decide +kernel
theorem dX12_comes_84 : decode cX12_comes 84 = .ok (.iconst 1, 1) := by decide +kernel
theorem dX12_comes_85 : decode cX12_comes 85 = .ok (.isub, 1) := by decide +kernel
theorem dX12_comes_86 : decode cX12_comes 86 = .ok (.ireturn, 1) := by decide +kernel
theorem dX12_learns_0 : decode cX12_learns 0 = .ok (.aload_n 0, 1) := by decide +kernel
theorem dX12_learns_1 : decode cX12_learns 1 = .ok (.iconst 0, 1) := by decide +kernel
theorem dX12_learns_2 : decode cX12_learns 2 = .ok (.putfield 77, 3) := by decide +kernel
theorem dX12_learns_5 : decode cX12_learns 5 = .ok (.aload_n 0, 1) := by decide +kernel
theorem dX12_learns_6 : decode cX12_learns 6 = .ok (.iload_n 1, 1) := by decide +kernel
theorem dX12_learns_7 : decode cX12_learns 7 = .ok (.invokevirtual 181, 3) := by decide +kernel
theorem dX12_learns_10 : decode cX12_learns 10 = .ok (.ifCond .eq 22, 3) := by decide +kernel
theorem dX12_learns_13 : decode cX12_learns 13 = .ok (.iload_n 2, 1) := by decide +kernel
theorem dX12_learns_14 : decode cX12_learns 14 = .ok (.invokestatic 90, 3) := by decide +kernel
theorem dX12_learns_17 : decode cX12_learns 17 = .ok (.ifCond .eq 15, 3) := by decide +kernel
theorem dX12_learns_20 : decode cX12_learns 20 = .ok (.iload_n 3, 1) := by decide +kernel
theorem dX12_learns_21 : decode cX12_learns 21 = .ok (.i2l, 1) := by decide +kernel
theorem dX12_learns_22 : decode cX12_learns 22 = .ok (.lconst 0, 1) := by decide +kernel
theorem dX12_learns_23 : decode cX12_learns 23 = .ok (.ldc2_w 231, 3) := by decide +kernel
theorem dX12_learns_26 : decode cX12_learns 26 = .ok (.invokestatic 83, 3) := by decide +kernel
theorem dX12_learns_29 : decode cX12_learns 29 = .ok (.ifCond .ne 5, 3) := by decide +kernel
theorem dX12_learns_32 : decode cX12_learns 32 = .ok (.iconst (-1), 1) := by decide +kernel
theorem dX12_learns_33 : decode cX12_learns 33 = .ok (.ireturn, 1) := by decide +kernel
theorem dX12_learns_34 : decode cX12_learns 34 = .ok (.aload_n 0, 1) := by decide +kernel
theorem dX12_learns_35 : decode cX12_learns 35 = .ok (.getfield 28, 3) := by decide +kernel
theorem dX12_learns_38 : decode cX12_learns 38 = .ok (.iconst 5, 1) := by decide +kernel
theorem dX12_learns_39 : decode cX12_learns 39 = .ok (.iload_n 1, 1) := by decide +kernel
theorem dX12_learns_40 : decode cX12_learns 40 = .ok (.imul, 1) := by decide +kernel
theorem dX12_learns_41 : decode cX12_learns 41 = .ok (.iload_n 2, 1) := by decide +kernel
theorem dX12_learns_42 : decode cX12_learns 42 = .ok (.iadd, 1) := by decide +kernel
theorem dX12_learns_43 : decode cX12_learns 43 = .ok (.dup2, 1) := by decide +kernel
theorem dX12_learns_44 : decode cX12_learns 44 = .ok (.iaload, 1) := by decide +kernel
theorem dX12_learns_45 : decode cX12_learns 45 = .ok (.iconst 1, 1) := by decide +kernel
theorem dX12_learns_46 : decode cX12_learns 46 = .ok (.iload_n 3, 1) := by decide +kernel
theorem dX12_learns_47 : decode cX12_learns 47 = .ok (.ishl, 1) := by decide +kernel
theorem dX12_learns_48 : decode cX12_learns 48 = .ok (.ixor, 1) := by decide +kernel
theorem dX12_learns_49 : decode cX12_learns 49 = .ok (.iastore, 1) := by decide +kernel
theorem dX12_learns_50 : decode cX12_learns 50 = .ok (.aload_n 0, 1) := by decide +kernel
theorem dX12_learns_51 : decode cX12_learns 51 = .ok (.getfield 28, 3) := by decide +kernel
theorem dX12_learns_54 : decode cX12_learns 54 = .ok (.iconst 5, 1) := by decide +kernel
theorem dX12_learns_55 : decode cX12_learns 55 = .ok (.iload_n 1, 1) := by decide +kernel
theorem dX12_learns_56 : decode cX12_learns 56 = .ok (.imul, 1) := by decide +kernel
theorem dX12_learns_57 : decode cX12_learns 57 = .ok (.iload_n 2, 1) := by decide +kernel
theorem dX12_learns_58 : decode cX12_learns 58 = .ok (.iadd, 1) := by decide +kernel
theorem dX12_learns_59 : decode cX12_learns 59 = .ok (.iaload, 1) := by decide +kernel
theorem dX12_learns_60 : decode cX12_learns 60 = .ok (.iload_n 3, 1) := by decide +kernel
theorem dX12_learns_61 : decode cX12_learns 61 = .ok (.invokestatic 105, 3) := by decide +kernel
theorem dX12_learns_64 : decode cX12_learns 64 = .ok (.ifCond .eq 7, 3) := by decide +kernel
theorem dX12_learns_67 : decode cX12_learns 67 = .ok (.iconst 1, 1) := by decide +kernel
theorem dX12_learns_68 : decode cX12_learns 68 = .ok (.goto 4, 3) := by decide +kernel
theorem dX12_learns_71 : decode cX12_learns 71 = .ok (.iconst 0, 1) := by decide +kernel
theorem dX12_learns_72 : decode cX12_learns 72 = .ok (.ireturn, 1) := by decide +kernel
theorem dX12_cares_0 : decode cX12_cares 0 = .ok (.aload_n 0, 1) := by decide +kernel
theorem dX12_cares_1 : decode cX12_cares 1 = .ok (.iconst 0, 1) := by decide +kernel
theorem dX12_cares_2 : decode cX12_cares 2 = .ok (.putfield 77, 3) := by decide +kernel
theorem dX12_cares_5 : decode cX12_cares 5 = .ok (.aload_n 0, 1) := by decide +kernel
theorem dX12_cares_6 : decode cX12_cares 6 = .ok (.iload_n 1, 1) := by decide +kernel
theorem dX12_cares_7 : decode cX12_cares 7 = .ok (.invokevirtual 181, 3) := by decide +kernel
theorem dX12_cares_10 : decode cX12_cares 10 = .ok (.ifCond .eq 10, 3) := by decide +kernel
theorem dX12_cares_13 : decode cX12_cares 13 = .ok (.iload_n 2, 1) := by decide +kernel
theorem dX12_cares_14 : decode cX12_cares 14 = .ok (.invokestatic 169, 3) := by decide +kernel
theorem dX12_cares_17 : decode cX12_cares 17 = .ok (.ifCond .ne 5, 3) := by decide +kernel
theorem dX12_cares_20 : decode cX12_cares 20 = .ok (.iconst (-1), 1) := by decide +kernel
theorem dX12_cares_21 : decode cX12_cares 21 = .ok (.ireturn, 1) := by decide +kernel
theorem dX12_cares_22 : decode cX12_cares 22 = .ok (.aload_n 0, 1) := by decide +kernel
theorem dX12_cares_23 : decode cX12_cares 23 = .ok (.getfield 25, 3) := by decide +kernel
theorem dX12_cares_26 : decode cX12_cares 26 = .ok (.iload_n 1, 1) := by decide +kernel
theorem dX12_cares_27 : decode cX12_cares 27 = .ok (.iaload, 1) := by decide +kernel
theorem dX12_cares_28 : decode cX12_cares 28 = .ok (.istore_n 3, 1) := by decide +kernel
theorem dX12_cares_29 : decode cX12_cares 29 = .ok (.aload_n 0, 1) := by decide +kernel
theorem dX12_cares_30 : decode cX12_cares 30 = .ok (.getfield 25, 3) := by decide +kernel
theorem dX12_cares_33 : decode cX12_cares 33 = .ok (.iload_n 1, 1) := by decide +kernel
theorem dX12_cares_34 : decode cX12_cares 34 = .ok (.iload_n 2, 1) := by decide +kernel
theorem dX12_cares_35 : decode cX12_cares 35 = .ok (.iastore, 1) := by decide +kernel
theorem dX12_cares_36 : decode cX12_cares 36 = .ok (.iload_n 3, 1) := by decide +kernel
theorem dX12_cares_37 : decode cX12_cares 37 = .ok (.ireturn, 1) := by decide +kernel
theorem dX12_gives_0 : decode cX12_gives 0 = .ok (.aload_n 0, 1) := by decide +kernel
theorem dX12_gives_1 : decode cX12_gives 1 = .ok (.iconst 0, 1) := by decide +kernel
theorem dX12_gives_2 : decode cX12_gives 2 = .ok (.putfield 77, 3) := by decide +kernel
theorem dX12_gives_5 : decode cX12_gives 5 = .ok (.iload_n 1, 1) := by decide +kernel
theorem dX12_gives_6 : decode cX12_gives 6 = .ok (.invokestatic 90, 3) := by decide +kernel
theorem dX12_gives_9 : decode cX12_gives 9 = .ok (.ifCond .eq 17, 3) := by decide +kernel
theorem dX12_gives_12 : decode cX12_gives 12 = .ok (.aload_n 0, 1) := by decide +kernel
theorem dX12_gives_13 : decode cX12_gives 13 = .ok (.iload_n 2, 1) := by decide +kernel
theorem dX12_gives_14 : decode cX12_gives 14 = .ok (.invokevirtual 181, 3) := by decide +kernel
theorem dX12_gives_17 : decode cX12_gives 17 = .ok (.ifCond .ne 11, 3) := by decide +kernel
theorem dX12_gives_20 : decode cX12_gives 20 = .ok (.iload_n 2, 1) := by decide +kernel
theorem dX12_gives_21 : decode cX12_gives 21 = .ok (.bipush 9, 2) := by decide +kernel
theorem dX12_gives_23 : decode cX12_gives 23 = .ok (.if_icmp .eq 5, 3) := by decide +kernel
theorem dX12_gives_26 : decode cX12_gives 26 = .ok (.iconst (-1), 1) := by decide +kernel
theorem dX12_gives_27 : decode cX12_gives 27 = .ok (.ireturn, 1) := by decide +kernel
theorem dX12_gives_28 : decode cX12_gives 28 = .ok (.aload_n 0, 1) := by decide +kernel
theorem dX12_gives_29 : decode cX12_gives 29 = .ok (.getfield 16, 3) := by decide +kernel
theorem dX12_gives_32 : decode cX12_gives 32 = .ok (.iload_n 1, 1) := by decide +kernel
theorem dX12_gives_33 : decode cX12_gives 33 = .ok (.iaload, 1) := by decide +kernel
theorem dX12_gives_34 : decode cX12_gives 34 = .ok (.istore_n 3, 1) := by decide +kernel
theorem dX12_gives_35 : decode cX12_gives 35 = .ok (.aload_n 0, 1) := by decide +kernel
theorem dX12_gives_36 : decode cX12_gives 36 = .ok (.getfield 16, 3) := by decide +kernel
theorem dX12_gives_39 : decode cX12_gives 39 = .ok (.iload_n 1, 1) := by decide +kernel
theorem dX12_gives_40 : decode cX12_gives 40 = .ok (.iload_n 2, 1) := by decide +kernel
theorem dX12_gives_41 : decode cX12_gives 41 = .ok (.iastore, 1) := by decide +kernel
theorem dX12_gives_42 : decode cX12_gives 42 = .ok (.iload_n 3, 1) := by decide +kernel
theorem dX12_gives_43 : decode cX12_gives 43 = .ok (.invokestatic 223, 3) := by decide +kernel
theorem dX12_gives_46 : decode cX12_gives 46 = .ok (.ireturn, 1) := by decide +kernel
theorem dX12_past_0 : decode cX12_past 0 = .ok (.aload_n 0, 1) := by decide +kernel
theorem dX12_past_1 : decode cX12_past 1 = .ok (.iconst 0, 1) := by decide +kernel
theorem dX12_past_2 : decode cX12_past 2 = .ok (.putfield 77, 3) := by decide +kernel
theorem dX12_past_5 : decode cX12_past 5 = .ok (.iload_n 1, 1) := by decide +kernel
theorem dX12_past_6 : decode cX12_past 6 = .ok (.invokestatic 90, 3) := by decide +kernel
theorem dX12_past_9 : decode cX12_past 9 = .ok (.ifCond .eq 15, 3) := by decide +kernel
theorem dX12_past_12 : decode cX12_past 12 = .ok (.iload_n 2, 1) := by decide +kernel
theorem dX12_past_13 : decode cX12_past 13 = .ok (.i2l, 1) := by decide +kernel
theorem dX12_past_14 : decode cX12_past 14 = .ok (.lconst 0, 1) := by decide +kernel
theorem dX12_past_15 : decode cX12_past 15 = .ok (.ldc2_w 233, 3) := by decide +kernel
theorem dX12_past_18 : decode cX12_past 18 = .ok (.invokestatic 83, 3) := by decide +kernel
theorem dX12_past_21 : decode cX12_past 21 = .ok (.ifCond .ne 5, 3) := by decide +kernel
theorem dX12_past_24 : decode cX12_past 24 = .ok (.iconst (-1), 1) := by decide +kernel
theorem dX12_past_25 : decode cX12_past 25 = .ok (.ireturn, 1) := by decide +kernel
theorem dX12_past_26 : decode cX12_past 26 = .ok (.aload_n 0, 1) := by decide +kernel
theorem dX12_past_27 : decode cX12_past 27 = .ok (.getfield 7, 3) := by decide +kernel
theorem dX12_past_30 : decode cX12_past 30 = .ok (.iload_n 1, 1) := by decide +kernel
theorem dX12_past_31 : decode cX12_past 31 = .ok (.iaload, 1) := by decide +kernel
theorem dX12_past_32 : decode cX12_past 32 = .ok (.istore_n 3, 1) := by decide +kernel
theorem dX12_past_33 : decode cX12_past 33 = .ok (.aload_n 0, 1) := by decide +kernel
theorem dX12_past_34 : decode cX12_past 34 = .ok (.getfield 7, 3) := by decide +kernel
theorem dX12_past_37 : decode cX12_past 37 = .ok (.iload_n 1, 1) := by decide +kernel
theorem dX12_past_38 : decode cX12_past 38 = .ok (.iload_n 2, 1) := by decide +kernel
theorem dX12_past_39 : decode cX12_past 39 = .ok (.iastore, 1) := by decide +kernel
theorem dX12_past_40 : decode cX12_past 40 = .ok (.iload_n 3, 1) := by decide +kernel
theorem dX12_past_41 : decode cX12_past 41 = .ok (.ireturn, 1) := by decide +kernel
theorem dX12_days_0 : decode cX12_days 0 = .ok (.aload_n 0, 1) := by decide +kernel
theorem dX12_days_1 : decode cX12_days 1 = .ok (.iconst 0, 1) := by decide +kernel
theorem dX12_days_2 : decode cX12_days 2 = .ok (.putfield 77, 3) := by decide +kernel
theorem dX12_days_5 : decode cX12_days 5 = .ok (.iload_n 1, 1) := by decide +kernel
theorem dX12_days_6 : decode cX12_days 6 = .ok (.i2l, 1) := by decide +kernel
theorem dX12_days_7 : decode cX12_days 7 = .ok (.lconst 1, 1) := by decide +kernel
theorem dX12_days_8 : decode cX12_days 8 = .ok (.ldc2_w 172, 3) := by decide +kernel
theorem dX12_days_11 : decode cX12_days 11 = .ok (.invokestatic 83, 3) := by decide +kernel
theorem dX12_days_14 : decode cX12_days 14 = .ok (.ifCond .ne 5, 3) := by decide +kernel
theorem dX12_days_17 : decode cX12_days 17 = .ok (.iconst (-1), 1) := by decide +kernel
theorem dX12_days_18 : decode cX12_days 18 = .ok (.ireturn, 1) := by decide +kernel
theorem dX12_days_19 : decode cX12_days 19 = .ok (.aload_n 0, 1) := by decide +kernel
theorem dX12_days_20 : decode cX12_days 20 = .ok (.getfield 113, 3) := by decide +kernel
theorem dX12_days_23 : decode cX12_days 23 = .ok (.iload_n 1, 1) := by decide +kernel
theorem dX12_days_24 : decode cX12_days 24 = .ok (.iadd, 1) := by decide +kernel
theorem dX12_days_25 : decode cX12_days 25 = .ok (.sipush 999, 3) := by decide +kernel
theorem dX12_days_28 : decode cX12_days 28 = .ok (.if_icmp .le 6, 3) := by decide +kernel
theorem dX12_days_31 : decode cX12_days 31 = .ok (.bipush (-3), 2) := by decide +kernel
theorem dX12_days_33 : decode cX12_days 33 = .ok (.ireturn, 1) := by decide +kernel
theorem dX12_days_34 : decode cX12_days 34 = .ok (.aload_n 0, 1) := by decide +kernel
theorem dX12_days_35 : decode cX12_days 35 = .ok (.iload_n 1, 1) := by decide +kernel
theorem dX12_days_36 : decode cX12_days 36 = .ok (.invokevirtual 174, 3) := by decide +kernel
theorem dX12_days_39 : decode cX12_days 39 = .ok (.aload_n 0, 1) := by decide +kernel
theorem dX12_days_40 : decode cX12_days 40 = .ok (.invokevirtual 235, 3) := by decide +kernel
theorem dX12_days_43 : decode cX12_days 43 = .ok (.invokestatic 94, 3) := by decide +kernel
theorem dX12_days_46 : decode cX12_days 46 = .ok (.ireturn, 1) := by decide +kernel
theorem dX12_ownerThen_0 : decode cX12_ownerThen 0 = .ok (.aload_n 0, 1) := by decide +kernel
theorem dX12_ownerThen_1 : decode cX12_ownerThen 1 = .ok (.iconst 0, 1) := by decide +kernel
theorem dX12_ownerThen_2 : decode cX12_ownerThen 2 = .ok (.putfield 77, 3) := by decide +kernel
theorem dX12_ownerThen_5 : decode cX12_ownerThen 5 = .ok (.iload_n 1, 1) := by decide +kernel
theorem dX12_ownerThen_6 : decode cX12_ownerThen 6 = .ok (.invokestatic 90, 3) := by decide +kernel
theorem dX12_ownerThen_9 : decode cX12_ownerThen 9 = .ok (.ifCond .eq 15, 3) := by decide +kernel
theorem dX12_ownerThen_12 : decode cX12_ownerThen 12 = .ok (.iload_n 2, 1) := by decide +kernel
theorem dX12_ownerThen_13 : decode cX12_ownerThen 13 = .ok (.i2l, 1) := by decide +kernel
theorem dX12_ownerThen_14 : decode cX12_ownerThen 14 = .ok (.lconst 0, 1) := by decide +kernel
theorem dX12_ownerThen_15 : decode cX12_ownerThen 15 = .ok (.ldc2_w 172, 3) := by decide +kernel
theorem dX12_ownerThen_18 : decode cX12_ownerThen 18 = .ok (.invokestatic 83, 3) := by decide +kernel
theorem dX12_ownerThen_21 : decode cX12_ownerThen 21 = .ok (.ifCond .ne 5, 3) := by decide +kernel
theorem dX12_ownerThen_24 : decode cX12_ownerThen 24 = .ok (.iconst (-1), 1) := by decide +kernel
theorem dX12_ownerThen_25 : decode cX12_ownerThen 25 = .ok (.ireturn, 1) := by decide +kernel
theorem dX12_ownerThen_26 : decode cX12_ownerThen 26 = .ok (.aload_n 0, 1) := by decide +kernel
theorem dX12_ownerThen_27 : decode cX12_ownerThen 27 = .ok (.invokevirtual 193, 3) := by decide +kernel
theorem dX12_ownerThen_30 : decode cX12_ownerThen 30 = .ok (.aload_n 0, 1) := by decide +kernel
theorem dX12_ownerThen_31 : decode cX12_ownerThen 31 = .ok (.iload_n 2, 1) := by decide +kernel
theorem dX12_ownerThen_32 : decode cX12_ownerThen 32 = .ok (.invokevirtual 174, 3) := by decide +kernel
theorem dX12_ownerThen_35 : decode cX12_ownerThen 35 = .ok (.aload_n 0, 1) := by decide +kernel
theorem dX12_ownerThen_36 : decode cX12_ownerThen 36 = .ok (.getfield 16, 3) := by decide +kernel
theorem dX12_ownerThen_39 : decode cX12_ownerThen 39 = .ok (.iload_n 1, 1) := by decide +kernel
theorem dX12_ownerThen_40 : decode cX12_ownerThen 40 = .ok (.iaload, 1) := by decide +kernel
theorem dX12_ownerThen_41 : decode cX12_ownerThen 41 = .ok (.istore_n 3, 1) := by decide +kernel
theorem dX12_ownerThen_42 : decode cX12_ownerThen 42 = .ok (.aload_n 0, 1) := by decide +kernel
theorem dX12_ownerThen_43 : decode cX12_ownerThen 43 = .ok (.invokevirtual 199, 3) := by decide +kernel
theorem dX12_ownerThen_46 : decode cX12_ownerThen 46 = .ok (.iload_n 3, 1) := by decide +kernel
theorem dX12_ownerThen_47 : decode cX12_ownerThen 47 = .ok (.invokestatic 223, 3) := by decide +kernel
theorem dX12_ownerThen_50 : decode cX12_ownerThen 50 = .ok (.ireturn, 1) := by decide +kernel
theorem dX12_storyThen_0 : decode cX12_storyThen 0 = .ok (.aload_n 0, 1) := by decide +kernel
theorem dX12_storyThen_1 : decode cX12_storyThen 1 = .ok (.iconst 0, 1) := by decide +kernel
theorem dX12_storyThen_2 : decode cX12_storyThen 2 = .ok (.putfield 77, 3) := by decide +kernel
theorem dX12_storyThen_5 : decode cX12_storyThen 5 = .ok (.aload_n 0, 1) := by decide +kernel
theorem dX12_storyThen_6 : decode cX12_storyThen 6 = .ok (.iload_n 1, 1) := by decide +kernel
theorem dX12_storyThen_7 : decode cX12_storyThen 7 = .ok (.invokevirtual 181, 3) := by decide +kernel
theorem dX12_storyThen_10 : decode cX12_storyThen 10 = .ok (.ifCond .eq 22, 3) := by decide +kernel
theorem dX12_storyThen_13 : decode cX12_storyThen 13 = .ok (.iload_n 2, 1) := by decide +kernel
theorem dX12_storyThen_14 : decode cX12_storyThen 14 = .ok (.invokestatic 90, 3) := by decide +kernel
theorem dX12_storyThen_17 : decode cX12_storyThen 17 = .ok (.ifCond .eq 15, 3) := by decide +kernel
theorem dX12_storyThen_20 : decode cX12_storyThen 20 = .ok (.iload_n 3, 1) := by decide +kernel
theorem dX12_storyThen_21 : decode cX12_storyThen 21 = .ok (.i2l, 1) := by decide +kernel
theorem dX12_storyThen_22 : decode cX12_storyThen 22 = .ok (.lconst 0, 1) := by decide +kernel
theorem dX12_storyThen_23 : decode cX12_storyThen 23 = .ok (.ldc2_w 172, 3) := by decide +kernel
theorem dX12_storyThen_26 : decode cX12_storyThen 26 = .ok (.invokestatic 83, 3) := by decide +kernel
theorem dX12_storyThen_29 : decode cX12_storyThen 29 = .ok (.ifCond .ne 5, 3) := by decide +kernel
theorem dX12_storyThen_32 : decode cX12_storyThen 32 = .ok (.iconst (-1), 1) := by decide +kernel
theorem dX12_storyThen_33 : decode cX12_storyThen 33 = .ok (.ireturn, 1) := by decide +kernel
theorem dX12_storyThen_34 : decode cX12_storyThen 34 = .ok (.aload_n 0, 1) := by decide +kernel
theorem dX12_storyThen_35 : decode cX12_storyThen 35 = .ok (.invokevirtual 193, 3) := by decide +kernel
theorem dX12_storyThen_38 : decode cX12_storyThen 38 = .ok (.aload_n 0, 1) := by decide +kernel
theorem dX12_storyThen_39 : decode cX12_storyThen 39 = .ok (.iload_n 3, 1) := by decide +kernel
theorem dX12_storyThen_40 : decode cX12_storyThen 40 = .ok (.invokevirtual 174, 3) := by decide +kernel
theorem dX12_storyThen_43 : decode cX12_storyThen 43 = .ok (.aload_n 0, 1) := by decide +kernel
theorem dX12_storyThen_44 : decode cX12_storyThen 44 = .ok (.iload_n 1, 1) := by decide +kernel
theorem dX12_storyThen_45 : decode cX12_storyThen 45 = .ok (.iload_n 2, 1) := by decide +kernel
theorem dX12_storyThen_46 : decode cX12_storyThen 46 = .ok (.invokevirtual 109, 3) := by decide +kernel
theorem dX12_storyThen_49 : decode cX12_storyThen 49 = .ok (.istore 4, 2) := by decide +kernel
theorem dX12_storyThen_51 : decode cX12_storyThen 51 = .ok (.aload_n 0, 1) := by decide +kernel
theorem dX12_storyThen_52 : decode cX12_storyThen 52 = .ok (.invokevirtual 199, 3) := by decide +kernel
theorem dX12_storyThen_55 : decode cX12_storyThen 55 = .ok (.iload 4, 2) := by decide +kernel
theorem dX12_storyThen_57 : decode cX12_storyThen 57 = .ok (.ireturn, 1) := by decide +kernel
theorem dX12_ownsThen_0 : decode cX12_ownsThen 0 = .ok (.aload_n 0, 1) := by decide +kernel
theorem dX12_ownsThen_1 : decode cX12_ownsThen 1 = .ok (.iconst 0, 1) := by decide +kernel
theorem dX12_ownsThen_2 : decode cX12_ownsThen 2 = .ok (.putfield 77, 3) := by decide +kernel
theorem dX12_ownsThen_5 : decode cX12_ownsThen 5 = .ok (.aload_n 0, 1) := by decide +kernel
theorem dX12_ownsThen_6 : decode cX12_ownsThen 6 = .ok (.iload_n 1, 1) := by decide +kernel
theorem dX12_ownsThen_7 : decode cX12_ownsThen 7 = .ok (.invokevirtual 181, 3) := by decide +kernel
theorem dX12_ownsThen_10 : decode cX12_ownsThen 10 = .ok (.ifCond .eq 25, 3) := by decide +kernel
theorem dX12_ownsThen_13 : decode cX12_ownsThen 13 = .ok (.iload_n 2, 1) := by decide +kernel
theorem dX12_ownsThen_14 : decode cX12_ownsThen 14 = .ok (.i2l, 1) := by decide +kernel
theorem dX12_ownsThen_15 : decode cX12_ownsThen 15 = .ok (.lconst 0, 1) := by decide +kernel
theorem dX12_ownsThen_16 : decode cX12_ownsThen 16 = .ok (.ldc2_w 172, 3) := by decide +kernel
theorem dX12_ownsThen_19 : decode cX12_ownsThen 19 = .ok (.invokestatic 83, 3) := by decide +kernel
theorem dX12_ownsThen_22 : decode cX12_ownsThen 22 = .ok (.ifCond .eq 13, 3) := by decide +kernel
theorem dX12_ownsThen_25 : decode cX12_ownsThen 25 = .ok (.iload_n 3, 1) := by decide +kernel
theorem dX12_ownsThen_26 : decode cX12_ownsThen 26 = .ok (.i2l, 1) := by decide +kernel
theorem dX12_ownsThen_27 : decode cX12_ownsThen 27 = .ok (.lconst 0, 1) := by decide +kernel
theorem dX12_ownsThen_28 : decode cX12_ownsThen 28 = .ok (.lconst 1, 1) := by decide +kernel
theorem dX12_ownsThen_29 : decode cX12_ownsThen 29 = .ok (.invokestatic 83, 3) := by decide +kernel
theorem dX12_ownsThen_32 : decode cX12_ownsThen 32 = .ok (.ifCond .ne 5, 3) := by decide +kernel
theorem dX12_ownsThen_35 : decode cX12_ownsThen 35 = .ok (.iconst (-1), 1) := by decide +kernel
theorem dX12_ownsThen_36 : decode cX12_ownsThen 36 = .ok (.ireturn, 1) := by decide +kernel
theorem dX12_ownsThen_37 : decode cX12_ownsThen 37 = .ok (.aload_n 0, 1) := by decide +kernel
theorem dX12_ownsThen_38 : decode cX12_ownsThen 38 = .ok (.invokevirtual 193, 3) := by decide +kernel
theorem dX12_ownsThen_41 : decode cX12_ownsThen 41 = .ok (.aload_n 0, 1) := by decide +kernel
theorem dX12_ownsThen_42 : decode cX12_ownsThen 42 = .ok (.iload_n 2, 1) := by decide +kernel
theorem dX12_ownsThen_43 : decode cX12_ownsThen 43 = .ok (.invokevirtual 174, 3) := by decide +kernel
theorem dX12_ownsThen_46 : decode cX12_ownsThen 46 = .ok (.iload_n 3, 1) := by decide +kernel
theorem dX12_ownsThen_47 : decode cX12_ownsThen 47 = .ok (.ifCond .ne 11, 3) := by decide +kernel
theorem dX12_ownsThen_50 : decode cX12_ownsThen 50 = .ok (.aload_n 0, 1) := by decide +kernel
theorem dX12_ownsThen_51 : decode cX12_ownsThen 51 = .ok (.iload_n 1, 1) := by decide +kernel
theorem dX12_ownsThen_52 : decode cX12_ownsThen 52 = .ok (.invokevirtual 135, 3) := by decide +kernel
theorem dX12_ownsThen_55 : decode cX12_ownsThen 55 = .ok (.goto 8, 3) := by decide +kernel
theorem dX12_ownsThen_58 : decode cX12_ownsThen 58 = .ok (.aload_n 0, 1) := by decide +kernel
theorem dX12_ownsThen_59 : decode cX12_ownsThen 59 = .ok (.iload_n 1, 1) := by decide +kernel
theorem dX12_ownsThen_60 : decode cX12_ownsThen 60 = .ok (.invokevirtual 238, 3) := by decide +kernel
theorem dX12_ownsThen_63 : decode cX12_ownsThen 63 = .ok (.istore 4, 2) := by decide +kernel
theorem dX12_ownsThen_65 : decode cX12_ownsThen 65 = .ok (.aload_n 0, 1) := by decide +kernel
theorem dX12_ownsThen_66 : decode cX12_ownsThen 66 = .ok (.invokevirtual 199, 3) := by decide +kernel
theorem dX12_ownsThen_69 : decode cX12_ownsThen 69 = .ok (.iload 4, 2) := by decide +kernel
theorem dX12_ownsThen_71 : decode cX12_ownsThen 71 = .ok (.ireturn, 1) := by decide +kernel
theorem dX12_when_0 : decode cX12_when 0 = .ok (.aload_n 0, 1) := by decide +kernel
theorem dX12_when_1 : decode cX12_when 1 = .ok (.iconst 0, 1) := by decide +kernel
theorem dX12_when_2 : decode cX12_when 2 = .ok (.putfield 77, 3) := by decide +kernel
theorem dX12_when_5 : decode cX12_when 5 = .ok (.aload_n 0, 1) := by decide +kernel
theorem dX12_when_6 : decode cX12_when 6 = .ok (.iload_n 1, 1) := by decide +kernel
theorem dX12_when_7 : decode cX12_when 7 = .ok (.invokevirtual 181, 3) := by decide +kernel
theorem dX12_when_10 : decode cX12_when 10 = .ok (.ifCond .eq 10, 3) := by decide +kernel
theorem dX12_when_13 : decode cX12_when 13 = .ok (.iload_n 2, 1) := by decide +kernel
theorem dX12_when_14 : decode cX12_when 14 = .ok (.invokestatic 90, 3) := by decide +kernel
theorem dX12_when_17 : decode cX12_when 17 = .ok (.ifCond .ne 5, 3) := by decide +kernel
theorem dX12_when_20 : decode cX12_when 20 = .ok (.iconst (-1), 1) := by decide +kernel
theorem dX12_when_21 : decode cX12_when 21 = .ok (.ireturn, 1) := by decide +kernel
theorem dX12_when_22 : decode cX12_when 22 = .ok (.bipush (-4), 2) := by decide +kernel
theorem dX12_when_24 : decode cX12_when 24 = .ok (.istore_n 3, 1) := by decide +kernel
theorem dX12_when_25 : decode cX12_when 25 = .ok (.aload_n 0, 1) := by decide +kernel
theorem dX12_when_26 : decode cX12_when 26 = .ok (.invokevirtual 193, 3) := by decide +kernel
theorem dX12_when_29 : decode cX12_when 29 = .ok (.iconst 0, 1) := by decide +kernel
theorem dX12_when_30 : decode cX12_when 30 = .ok (.istore 4, 2) := by decide +kernel
theorem dX12_when_32 : decode cX12_when 32 = .ok (.iload 4, 2) := by decide +kernel
theorem dX12_when_34 : decode cX12_when 34 = .ok (.bipush 60, 2) := by decide +kernel
theorem dX12_when_36 : decode cX12_when 36 = .ok (.if_icmp .gt 35, 3) := by decide +kernel
theorem dX12_when_39 : decode cX12_when 39 = .ok (.iload_n 3, 1) := by decide +kernel
theorem dX12_when_40 : decode cX12_when 40 = .ok (.ifCond .ge 31, 3) := by decide +kernel
theorem dX12_when_43 : decode cX12_when 43 = .ok (.aload_n 0, 1) := by decide +kernel
theorem dX12_when_44 : decode cX12_when 44 = .ok (.getfield 16, 3) := by decide +kernel
theorem dX12_when_47 : decode cX12_when 47 = .ok (.iload_n 2, 1) := by decide +kernel
theorem dX12_when_48 : decode cX12_when 48 = .ok (.iaload, 1) := by decide +kernel
theorem dX12_when_49 : decode cX12_when 49 = .ok (.iload_n 1, 1) := by decide +kernel
theorem dX12_when_50 : decode cX12_when 50 = .ok (.if_icmp .ne 8, 3) := by decide +kernel
theorem dX12_when_53 : decode cX12_when 53 = .ok (.iload 4, 2) := by decide +kernel
theorem dX12_when_55 : decode cX12_when 55 = .ok (.goto 5, 3) := by decide +kernel
theorem dX12_when_58 : decode cX12_when 58 = .ok (.bipush (-4), 2) := by decide +kernel
theorem dX12_when_60 : decode cX12_when 60 = .ok (.istore_n 3, 1) := by decide +kernel
theorem dX12_when_61 : decode cX12_when 61 = .ok (.aload_n 0, 1) := by decide +kernel
theorem dX12_when_62 : decode cX12_when 62 = .ok (.invokevirtual 132, 3) := by decide +kernel
theorem dX12_when_65 : decode cX12_when 65 = .ok (.iinc 4 1, 3) := by decide +kernel
theorem dX12_when_68 : decode cX12_when 68 = .ok (.goto (-36), 3) := by decide +kernel
theorem dX12_when_71 : decode cX12_when 71 = .ok (.aload_n 0, 1) := by decide +kernel
theorem dX12_when_72 : decode cX12_when 72 = .ok (.invokevirtual 199, 3) := by decide +kernel
theorem dX12_when_75 : decode cX12_when 75 = .ok (.iload_n 3, 1) := by decide +kernel
theorem dX12_when_76 : decode cX12_when 76 = .ok (.ireturn, 1) := by decide +kernel
theorem dX12_loses_0 : decode cX12_loses 0 = .ok (.aload_n 0, 1) := by decide +kernel
theorem dX12_loses_1 : decode cX12_loses 1 = .ok (.iconst 0, 1) := by decide +kernel
theorem dX12_loses_2 : decode cX12_loses 2 = .ok (.putfield 77, 3) := by decide +kernel
theorem dX12_loses_5 : decode cX12_loses 5 = .ok (.iload_n 1, 1) := by decide +kernel
theorem dX12_loses_6 : decode cX12_loses 6 = .ok (.invokestatic 90, 3) := by decide +kernel
theorem dX12_loses_9 : decode cX12_loses 9 = .ok (.ifCond .ne 5, 3) := by decide +kernel
theorem dX12_loses_12 : decode cX12_loses 12 = .ok (.iconst (-1), 1) := by decide +kernel
theorem dX12_loses_13 : decode cX12_loses 13 = .ok (.ireturn, 1) := by decide +kernel
theorem dX12_loses_14 : decode cX12_loses 14 = .ok (.bipush (-4), 2) := by decide +kernel
theorem dX12_loses_16 : decode cX12_loses 16 = .ok (.istore_n 2, 1) := by decide +kernel
theorem dX12_loses_17 : decode cX12_loses 17 = .ok (.aload_n 0, 1) := by decide +kernel
theorem dX12_loses_18 : decode cX12_loses 18 = .ok (.getfield 16, 3) := by decide +kernel
theorem dX12_loses_21 : decode cX12_loses 21 = .ok (.iload_n 1, 1) := by decide +kernel
theorem dX12_loses_22 : decode cX12_loses 22 = .ok (.iaload, 1) := by decide +kernel
theorem dX12_loses_23 : decode cX12_loses 23 = .ok (.istore_n 3, 1) := by decide +kernel
theorem dX12_loses_24 : decode cX12_loses 24 = .ok (.aload_n 0, 1) := by decide +kernel
theorem dX12_loses_25 : decode cX12_loses 25 = .ok (.invokevirtual 193, 3) := by decide +kernel
theorem dX12_loses_28 : decode cX12_loses 28 = .ok (.iconst 0, 1) := by decide +kernel
theorem dX12_loses_29 : decode cX12_loses 29 = .ok (.istore 4, 2) := by decide +kernel
theorem dX12_loses_31 : decode cX12_loses 31 = .ok (.iload 4, 2) := by decide +kernel
theorem dX12_loses_33 : decode cX12_loses 33 = .ok (.bipush 60, 2) := by decide +kernel
theorem dX12_loses_35 : decode cX12_loses 35 = .ok (.if_icmp .gt 41, 3) := by decide +kernel
theorem dX12_loses_38 : decode cX12_loses 38 = .ok (.iload_n 2, 1) := by decide +kernel
theorem dX12_loses_39 : decode cX12_loses 39 = .ok (.ifCond .ge 37, 3) := by decide +kernel
theorem dX12_loses_42 : decode cX12_loses 42 = .ok (.iload_n 3, 1) := by decide +kernel
theorem dX12_loses_43 : decode cX12_loses 43 = .ok (.bipush 9, 2) := by decide +kernel
theorem dX12_loses_45 : decode cX12_loses 45 = .ok (.if_icmp .eq 31, 3) := by decide +kernel
theorem dX12_loses_48 : decode cX12_loses 48 = .ok (.aload_n 0, 1) := by decide +kernel
theorem dX12_loses_49 : decode cX12_loses 49 = .ok (.getfield 16, 3) := by decide +kernel
theorem dX12_loses_52 : decode cX12_loses 52 = .ok (.iload_n 1, 1) := by decide +kernel
theorem dX12_loses_53 : decode cX12_loses 53 = .ok (.iaload, 1) := by decide +kernel
theorem dX12_loses_54 : decode cX12_loses 54 = .ok (.iload_n 3, 1) := by decide +kernel
theorem dX12_loses_55 : decode cX12_loses 55 = .ok (.if_icmp .eq 8, 3) := by decide +kernel
theorem dX12_loses_58 : decode cX12_loses 58 = .ok (.iload 4, 2) := by decide +kernel
theorem dX12_loses_60 : decode cX12_loses 60 = .ok (.goto 5, 3) := by decide +kernel
theorem dX12_loses_63 : decode cX12_loses 63 = .ok (.bipush (-4), 2) := by decide +kernel
theorem dX12_loses_65 : decode cX12_loses 65 = .ok (.istore_n 2, 1) := by decide +kernel
theorem dX12_loses_66 : decode cX12_loses 66 = .ok (.aload_n 0, 1) := by decide +kernel
theorem dX12_loses_67 : decode cX12_loses 67 = .ok (.invokevirtual 132, 3) := by decide +kernel
theorem dX12_loses_70 : decode cX12_loses 70 = .ok (.iinc 4 1, 3) := by decide +kernel
theorem dX12_loses_73 : decode cX12_loses 73 = .ok (.goto (-42), 3) := by decide +kernel
theorem dX12_loses_76 : decode cX12_loses 76 = .ok (.aload_n 0, 1) := by decide +kernel
theorem dX12_loses_77 : decode cX12_loses 77 = .ok (.invokevirtual 199, 3) := by decide +kernel
theorem dX12_loses_80 : decode cX12_loses 80 = .ok (.iload_n 2, 1) := by decide +kernel
theorem dX12_loses_81 : decode cX12_loses 81 = .ok (.ireturn, 1) := by decide +kernel
theorem dX12_lookAfter_0 : decode cX12_lookAfter 0 = .ok (.aload_n 0, 1) := by decide +kernel
theorem dX12_lookAfter_1 : decode cX12_lookAfter 1 = .ok (.iconst 0, 1) := by decide +kernel
theorem dX12_lookAfter_2 : decode cX12_lookAfter 2 = .ok (.putfield 77, 3) := by decide +kernel
theorem dX12_lookAfter_5 : decode cX12_lookAfter 5 = .ok (.aload_n 0, 1) := by decide +kernel
theorem dX12_lookAfter_6 : decode cX12_lookAfter 6 = .ok (.iload_n 1, 1) := by decide +kernel
theorem dX12_lookAfter_7 : decode cX12_lookAfter 7 = .ok (.invokevirtual 181, 3) := by decide +kernel
theorem dX12_lookAfter_10 : decode cX12_lookAfter 10 = .ok (.ifCond .eq 25, 3) := by decide +kernel
theorem dX12_lookAfter_13 : decode cX12_lookAfter 13 = .ok (.iload_n 2, 1) := by decide +kernel
theorem dX12_lookAfter_14 : decode cX12_lookAfter 14 = .ok (.i2l, 1) := by decide +kernel
theorem dX12_lookAfter_15 : decode cX12_lookAfter 15 = .ok (.lconst 0, 1) := by decide +kernel
theorem dX12_lookAfter_16 : decode cX12_lookAfter 16 = .ok (.ldc2_w 172, 3) := by decide +kernel
theorem dX12_lookAfter_19 : decode cX12_lookAfter 19 = .ok (.invokestatic 83, 3) := by decide +kernel
theorem dX12_lookAfter_22 : decode cX12_lookAfter 22 = .ok (.ifCond .eq 13, 3) := by decide +kernel
theorem dX12_lookAfter_25 : decode cX12_lookAfter 25 = .ok (.iload_n 3, 1) := by decide +kernel
theorem dX12_lookAfter_26 : decode cX12_lookAfter 26 = .ok (.i2l, 1) := by decide +kernel
theorem dX12_lookAfter_27 : decode cX12_lookAfter 27 = .ok (.lconst 0, 1) := by decide +kernel
theorem dX12_lookAfter_28 : decode cX12_lookAfter 28 = .ok (.lconst 1, 1) := by decide +kernel
theorem dX12_lookAfter_29 : decode cX12_lookAfter 29 = .ok (.invokestatic 83, 3) := by decide +kernel
theorem dX12_lookAfter_32 : decode cX12_lookAfter 32 = .ok (.ifCond .ne 5, 3) := by decide +kernel
theorem dX12_lookAfter_35 : decode cX12_lookAfter 35 = .ok (.iconst (-1), 1) := by decide +kernel
theorem dX12_lookAfter_36 : decode cX12_lookAfter 36 = .ok (.ireturn, 1) := by decide +kernel
theorem dX12_lookAfter_37 : decode cX12_lookAfter 37 = .ok (.iconst 0, 1) := by decide +kernel
theorem dX12_lookAfter_38 : decode cX12_lookAfter 38 = .ok (.istore 4, 2) := by decide +kernel
theorem dX12_lookAfter_40 : decode cX12_lookAfter 40 = .ok (.iconst (-1), 1) := by decide +kernel
theorem dX12_lookAfter_41 : decode cX12_lookAfter 41 = .ok (.istore 5, 2) := by decide +kernel
theorem dX12_lookAfter_43 : decode cX12_lookAfter 43 = .ok (.aload_n 0, 1) := by decide +kernel
theorem dX12_lookAfter_44 : decode cX12_lookAfter 44 = .ok (.invokevirtual 193, 3) := by decide +kernel
theorem dX12_lookAfter_47 : decode cX12_lookAfter 47 = .ok (.iconst 0, 1) := by decide +kernel
theorem dX12_lookAfter_48 : decode cX12_lookAfter 48 = .ok (.istore 6, 2) := by decide +kernel
theorem dX12_lookAfter_50 : decode cX12_lookAfter 50 = .ok (.iload 6, 2) := by decide +kernel
theorem dX12_lookAfter_52 : decode cX12_lookAfter 52 = .ok (.bipush 6, 2) := by decide +kernel
theorem dX12_lookAfter_54 : decode cX12_lookAfter 54 = .ok (.if_icmp .ge 76, 3) := by decide +kernel
theorem dX12_lookAfter_57 : decode cX12_lookAfter 57 = .ok (.aload_n 0, 1) := by decide +kernel
theorem dX12_lookAfter_58 : decode cX12_lookAfter 58 = .ok (.getfield 25, 3) := by decide +kernel
theorem dX12_lookAfter_61 : decode cX12_lookAfter 61 = .ok (.iload_n 1, 1) := by decide +kernel
theorem dX12_lookAfter_62 : decode cX12_lookAfter 62 = .ok (.iload 6, 2) := by decide +kernel
theorem dX12_lookAfter_64 : decode cX12_lookAfter 64 = .ok (.iconst 5, 1) := by decide +kernel
theorem dX12_lookAfter_65 : decode cX12_lookAfter 65 = .ok (.if_icmp .ne 8, 3) := by decide +kernel
theorem dX12_lookAfter_68 : decode cX12_lookAfter 68 = .ok (.bipush 9, 2) := by decide +kernel
theorem dX12_lookAfter_70 : decode cX12_lookAfter 70 = .ok (.goto 5, 3) := by decide +kernel
theorem dX12_lookAfter_73 : decode cX12_lookAfter 73 = .ok (.iload 6, 2) := by decide +kernel
theorem dX12_lookAfter_75 : decode cX12_lookAfter 75 = .ok (.iastore, 1) := by decide +kernel
theorem dX12_lookAfter_76 : decode cX12_lookAfter 76 = .ok (.aload_n 0, 1) := by decide +kernel
theorem dX12_lookAfter_77 : decode cX12_lookAfter 77 = .ok (.iload_n 2, 1) := by decide +kernel
theorem dX12_lookAfter_78 : decode cX12_lookAfter 78 = .ok (.invokevirtual 174, 3) := by decide +kernel
theorem dX12_lookAfter_81 : decode cX12_lookAfter 81 = .ok (.aload_n 0, 1) := by decide +kernel
theorem dX12_lookAfter_82 : decode cX12_lookAfter 82 = .ok (.iload_n 1, 1) := by decide +kernel
theorem dX12_lookAfter_83 : decode cX12_lookAfter 83 = .ok (.invokevirtual 238, 3) := by decide +kernel
theorem dX12_lookAfter_86 : decode cX12_lookAfter 86 = .ok (.istore 7, 2) := by decide +kernel
theorem dX12_lookAfter_88 : decode cX12_lookAfter 88 = .ok (.aload_n 0, 1) := by decide +kernel
theorem dX12_lookAfter_89 : decode cX12_lookAfter 89 = .ok (.invokevirtual 199, 3) := by decide +kernel
theorem dX12_lookAfter_92 : decode cX12_lookAfter 92 = .ok (.iload 7, 2) := by decide +kernel
theorem dX12_lookAfter_94 : decode cX12_lookAfter 94 = .ok (.iload 5, 2) := by decide +kernel
theorem dX12_lookAfter_96 : decode cX12_lookAfter 96 = .ok (.if_icmp .le 8, 3) := by decide +kernel
theorem dX12_lookAfter_99 : decode cX12_lookAfter 99 = .ok (.iload 6, 2) := by decide +kernel
theorem dX12_lookAfter_101 : decode cX12_lookAfter 101 = .ok (.goto 5, 3) := by decide +kernel
theorem dX12_lookAfter_104 : decode cX12_lookAfter 104 = .ok (.iload 4, 2) := by decide +kernel
theorem dX12_lookAfter_106 : decode cX12_lookAfter 106 = .ok (.istore 4, 2) := by decide +kernel
theorem dX12_lookAfter_108 : decode cX12_lookAfter 108 = .ok (.iload 7, 2) := by decide +kernel
theorem dX12_lookAfter_110 : decode cX12_lookAfter 110 = .ok (.iload 5, 2) := by decide +kernel
theorem dX12_lookAfter_112 : decode cX12_lookAfter 112 = .ok (.if_icmp .le 8, 3) := by decide +kernel
theorem dX12_lookAfter_115 : decode cX12_lookAfter 115 = .ok (.iload 7, 2) := by decide +kernel
theorem dX12_lookAfter_117 : decode cX12_lookAfter 117 = .ok (.goto 5, 3) := by decide +kernel
theorem dX12_lookAfter_120 : decode cX12_lookAfter 120 = .ok (.iload 5, 2) := by decide +kernel
theorem dX12_lookAfter_122 : decode cX12_lookAfter 122 = .ok (.istore 5, 2) := by decide +kernel
theorem dX12_lookAfter_124 : decode cX12_lookAfter 124 = .ok (.iinc 6 1, 3) := by decide +kernel
theorem dX12_lookAfter_127 : decode cX12_lookAfter 127 = .ok (.goto (-77), 3) := by decide +kernel
theorem dX12_lookAfter_130 : decode cX12_lookAfter 130 = .ok (.iload_n 3, 1) := by decide +kernel
theorem dX12_lookAfter_131 : decode cX12_lookAfter 131 = .ok (.iconst 1, 1) := by decide +kernel
theorem dX12_lookAfter_132 : decode cX12_lookAfter 132 = .ok (.if_icmp .ne 8, 3) := by decide +kernel
theorem dX12_lookAfter_135 : decode cX12_lookAfter 135 = .ok (.iload 5, 2) := by decide +kernel
theorem dX12_lookAfter_137 : decode cX12_lookAfter 137 = .ok (.goto 16, 3) := by decide +kernel
theorem dX12_lookAfter_140 : decode cX12_lookAfter 140 = .ok (.iload 4, 2) := by decide +kernel
theorem dX12_lookAfter_142 : decode cX12_lookAfter 142 = .ok (.iconst 5, 1) := by decide +kernel
theorem dX12_lookAfter_143 : decode cX12_lookAfter 143 = .ok (.if_icmp .ne 8, 3) := by decide +kernel
theorem dX12_lookAfter_146 : decode cX12_lookAfter 146 = .ok (.bipush 9, 2) := by decide +kernel
theorem dX12_lookAfter_148 : decode cX12_lookAfter 148 = .ok (.goto 5, 3) := by decide +kernel
theorem dX12_lookAfter_151 : decode cX12_lookAfter 151 = .ok (.iload 4, 2) := by decide +kernel
theorem dX12_lookAfter_153 : decode cX12_lookAfter 153 = .ok (.ireturn, 1) := by decide +kernel
theorem dX12_mostOfOthers_0 : decode cX12_mostOfOthers 0 = .ok (.iconst 0, 1) := by decide +kernel
theorem dX12_mostOfOthers_1 : decode cX12_mostOfOthers 1 = .ok (.istore_n 3, 1) := by decide +kernel
theorem dX12_mostOfOthers_2 : decode cX12_mostOfOthers 2 = .ok (.iconst 0, 1) := by decide +kernel
theorem dX12_mostOfOthers_3 : decode cX12_mostOfOthers 3 = .ok (.istore 4, 2) := by decide +kernel
theorem dX12_mostOfOthers_5 : decode cX12_mostOfOthers 5 = .ok (.iload 4, 2) := by decide +kernel
theorem dX12_mostOfOthers_7 : decode cX12_mostOfOthers 7 = .ok (.aload_n 0, 1) := by decide +kernel
theorem dX12_mostOfOthers_8 : decode cX12_mostOfOthers 8 = .ok (.getfield 87, 3) := by decide +kernel
theorem dX12_mostOfOthers_11 : decode cX12_mostOfOthers 11 = .ok (.if_icmp .ge 38, 3) := by decide +kernel
theorem dX12_mostOfOthers_14 : decode cX12_mostOfOthers 14 = .ok (.iload 4, 2) := by decide +kernel
theorem dX12_mostOfOthers_16 : decode cX12_mostOfOthers 16 = .ok (.iload_n 1, 1) := by decide +kernel
theorem dX12_mostOfOthers_17 : decode cX12_mostOfOthers 17 = .ok (.if_icmp .eq 24, 3) := by decide +kernel
theorem dX12_mostOfOthers_20 : decode cX12_mostOfOthers 20 = .ok (.aload_n 0, 1) := by decide +kernel
theorem dX12_mostOfOthers_21 : decode cX12_mostOfOthers 21 = .ok (.iload 4, 2) := by decide +kernel
theorem dX12_mostOfOthers_23 : decode cX12_mostOfOthers 23 = .ok (.iload_n 2, 1) := by decide +kernel
theorem dX12_mostOfOthers_24 : decode cX12_mostOfOthers 24 = .ok (.invokevirtual 109, 3) := by decide +kernel
theorem dX12_mostOfOthers_27 : decode cX12_mostOfOthers 27 = .ok (.iload_n 3, 1) := by decide +kernel
theorem dX12_mostOfOthers_28 : decode cX12_mostOfOthers 28 = .ok (.if_icmp .le 13, 3) := by decide +kernel
theorem dX12_mostOfOthers_31 : decode cX12_mostOfOthers 31 = .ok (.aload_n 0, 1) := by decide +kernel
theorem dX12_mostOfOthers_32 : decode cX12_mostOfOthers 32 = .ok (.iload 4, 2) := by decide +kernel
theorem dX12_mostOfOthers_34 : decode cX12_mostOfOthers 34 = .ok (.iload_n 2, 1) := by decide +kernel
theorem dX12_mostOfOthers_35 : decode cX12_mostOfOthers 35 = .ok (.invokevirtual 109, 3) := by decide +kernel
theorem dX12_mostOfOthers_38 : decode cX12_mostOfOthers 38 = .ok (.goto 4, 3) := by decide +kernel
theorem dX12_mostOfOthers_41 : decode cX12_mostOfOthers 41 = .ok (.iload_n 3, 1) := by decide +kernel
theorem dX12_mostOfOthers_42 : decode cX12_mostOfOthers 42 = .ok (.istore_n 3, 1) := by decide +kernel
theorem dX12_mostOfOthers_43 : decode cX12_mostOfOthers 43 = .ok (.iinc 4 1, 3) := by decide +kernel
theorem dX12_mostOfOthers_46 : decode cX12_mostOfOthers 46 = .ok (.goto (-41), 3) := by decide +kernel
theorem dX12_mostOfOthers_49 : decode cX12_mostOfOthers 49 = .ok (.iload_n 3, 1) := by decide +kernel
theorem dX12_mostOfOthers_50 : decode cX12_mostOfOthers 50 = .ok (.ireturn, 1) := by decide +kernel
theorem dX12_win_0 : decode cX12_win 0 = .ok (.aload_n 0, 1) := by decide +kernel
theorem dX12_win_1 : decode cX12_win 1 = .ok (.iconst 0, 1) := by decide +kernel
theorem dX12_win_2 : decode cX12_win 2 = .ok (.putfield 77, 3) := by decide +kernel
theorem dX12_win_5 : decode cX12_win 5 = .ok (.aload_n 0, 1) := by decide +kernel
theorem dX12_win_6 : decode cX12_win 6 = .ok (.iload_n 1, 1) := by decide +kernel
theorem dX12_win_7 : decode cX12_win 7 = .ok (.invokevirtual 181, 3) := by decide +kernel
theorem dX12_win_10 : decode cX12_win 10 = .ok (.ifCond .eq 10, 3) := by decide +kernel
theorem dX12_win_13 : decode cX12_win 13 = .ok (.iload_n 2, 1) := by decide +kernel
theorem dX12_win_14 : decode cX12_win 14 = .ok (.invokestatic 90, 3) := by decide +kernel
theorem dX12_win_17 : decode cX12_win 17 = .ok (.ifCond .ne 5, 3) := by decide +kernel
theorem dX12_win_20 : decode cX12_win 20 = .ok (.iconst (-1), 1) := by decide +kernel
theorem dX12_win_21 : decode cX12_win 21 = .ok (.ireturn, 1) := by decide +kernel
theorem dX12_win_22 : decode cX12_win 22 = .ok (.aload_n 0, 1) := by decide +kernel
theorem dX12_win_23 : decode cX12_win 23 = .ok (.iload_n 1, 1) := by decide +kernel
theorem dX12_win_24 : decode cX12_win 24 = .ok (.iload_n 2, 1) := by decide +kernel
theorem dX12_win_25 : decode cX12_win 25 = .ok (.invokevirtual 241, 3) := by decide +kernel
theorem dX12_win_28 : decode cX12_win 28 = .ok (.istore_n 3, 1) := by decide +kernel
theorem dX12_win_29 : decode cX12_win 29 = .ok (.aload_n 0, 1) := by decide +kernel
theorem dX12_win_30 : decode cX12_win 30 = .ok (.getfield 28, 3) := by decide +kernel
theorem dX12_win_33 : decode cX12_win 33 = .ok (.iconst 5, 1) := by decide +kernel
theorem dX12_win_34 : decode cX12_win 34 = .ok (.iload_n 1, 1) := by decide +kernel
theorem dX12_win_35 : decode cX12_win 35 = .ok (.imul, 1) := by decide +kernel
theorem dX12_win_36 : decode cX12_win 36 = .ok (.iload_n 2, 1) := by decide +kernel
theorem dX12_win_37 : decode cX12_win 37 = .ok (.iadd, 1) := by decide +kernel
theorem dX12_win_38 : decode cX12_win 38 = .ok (.iaload, 1) := by decide +kernel
theorem dX12_win_39 : decode cX12_win 39 = .ok (.istore 4, 2) := by decide +kernel
theorem dX12_win_41 : decode cX12_win 41 = .ok (.iconst 0, 1) := by decide +kernel
theorem dX12_win_42 : decode cX12_win 42 = .ok (.istore 5, 2) := by decide +kernel
theorem dX12_win_44 : decode cX12_win 44 = .ok (.iload 5, 2) := by decide +kernel
theorem dX12_win_46 : decode cX12_win 46 = .ok (.bipush 13, 2) := by decide +kernel
theorem dX12_win_48 : decode cX12_win 48 = .ok (.if_icmp .ge 61, 3) := by decide +kernel
theorem dX12_win_51 : decode cX12_win 51 = .ok (.aload_n 0, 1) := by decide +kernel
theorem dX12_win_52 : decode cX12_win 52 = .ok (.iload_n 1, 1) := by decide +kernel
theorem dX12_win_53 : decode cX12_win 53 = .ok (.iload 4, 2) := by decide +kernel
theorem dX12_win_55 : decode cX12_win 55 = .ok (.aload_n 0, 1) := by decide +kernel
theorem dX12_win_56 : decode cX12_win 56 = .ok (.getfield 7, 3) := by decide +kernel
theorem dX12_win_59 : decode cX12_win 59 = .ok (.iload_n 2, 1) := by decide +kernel
theorem dX12_win_60 : decode cX12_win 60 = .ok (.iaload, 1) := by decide +kernel
theorem dX12_win_61 : decode cX12_win 61 = .ok (.invokevirtual 98, 3) := by decide +kernel
theorem dX12_win_64 : decode cX12_win 64 = .ok (.iload_n 3, 1) := by decide +kernel
theorem dX12_win_65 : decode cX12_win 65 = .ok (.if_icmp .le 6, 3) := by decide +kernel
theorem dX12_win_68 : decode cX12_win 68 = .ok (.iload 5, 2) := by decide +kernel
theorem dX12_win_70 : decode cX12_win 70 = .ok (.ireturn, 1) := by decide +kernel
theorem dX12_win_71 : decode cX12_win 71 = .ok (.aload_n 0, 1) := by decide +kernel
theorem dX12_win_72 : decode cX12_win 72 = .ok (.getfield 7, 3) := by decide +kernel
theorem dX12_win_75 : decode cX12_win 75 = .ok (.iload_n 2, 1) := by decide +kernel
theorem dX12_win_76 : decode cX12_win 76 = .ok (.iaload, 1) := by decide +kernel
theorem dX12_win_77 : decode cX12_win 77 = .ok (.iload 4, 2) := by decide +kernel
theorem dX12_win_79 : decode cX12_win 79 = .ok (.iconst (-1), 1) := by decide +kernel
theorem dX12_win_80 : decode cX12_win 80 = .ok (.ixor, 1) := by decide +kernel
theorem dX12_win_81 : decode cX12_win 81 = .ok (.iand, 1) := by decide +kernel
theorem dX12_win_82 : decode cX12_win 82 = .ok (.istore 6, 2) := by decide +kernel
theorem dX12_win_84 : decode cX12_win 84 = .ok (.iload 6, 2) := by decide +kernel
theorem dX12_win_86 : decode cX12_win 86 = .ok (.ifCond .ne 6, 3) := by decide +kernel
theorem dX12_win_89 : decode cX12_win 89 = .ok (.bipush (-4), 2) := by decide +kernel
theorem dX12_win_91 : decode cX12_win 91 = .ok (.ireturn, 1) := by decide +kernel
theorem dX12_win_92 : decode cX12_win 92 = .ok (.iload 4, 2) := by decide +kernel
theorem dX12_win_94 : decode cX12_win 94 = .ok (.iload 6, 2) := by decide +kernel
theorem dX12_win_96 : decode cX12_win 96 = .ok (.iload 6, 2) := by decide +kernel
theorem dX12_win_98 : decode cX12_win 98 = .ok (.ineg, 1) := by decide +kernel
theorem dX12_win_99 : decode cX12_win 99 = .ok (.iand, 1) := by decide +kernel
theorem dX12_win_100 : decode cX12_win 100 = .ok (.ior, 1) := by decide +kernel
theorem dX12_win_101 : decode cX12_win 101 = .ok (.istore 4, 2) := by decide +kernel
theorem dX12_win_103 : decode cX12_win 103 = .ok (.iinc 5 1, 3) := by decide +kernel
theorem dX12_win_106 : decode cX12_win 106 = .ok (.goto (-62), 3) := by decide +kernel
theorem dX12_win_109 : decode cX12_win 109 = .ok (.bipush (-4), 2) := by decide +kernel
theorem dX12_win_111 : decode cX12_win 111 = .ok (.ireturn, 1) := by decide +kernel
theorem dX12_ask_0 : decode cX12_ask 0 = .ok (.aload_n 0, 1) := by decide +kernel
theorem dX12_ask_1 : decode cX12_ask 1 = .ok (.iconst 0, 1) := by decide +kernel
theorem dX12_ask_2 : decode cX12_ask 2 = .ok (.putfield 77, 3) := by decide +kernel
theorem dX12_ask_5 : decode cX12_ask 5 = .ok (.aload_n 0, 1) := by decide +kernel
theorem dX12_ask_6 : decode cX12_ask 6 = .ok (.iload_n 1, 1) := by decide +kernel
theorem dX12_ask_7 : decode cX12_ask 7 = .ok (.invokevirtual 181, 3) := by decide +kernel
theorem dX12_ask_10 : decode cX12_ask 10 = .ok (.ifCond .eq 10, 3) := by decide +kernel
theorem dX12_ask_13 : decode cX12_ask 13 = .ok (.iload_n 2, 1) := by decide +kernel
theorem dX12_ask_14 : decode cX12_ask 14 = .ok (.invokestatic 90, 3) := by decide +kernel
theorem dX12_ask_17 : decode cX12_ask 17 = .ok (.ifCond .ne 5, 3) := by decide +kernel
theorem dX12_ask_20 : decode cX12_ask 20 = .ok (.iconst (-1), 1) := by decide +kernel
theorem dX12_ask_21 : decode cX12_ask 21 = .ok (.ireturn, 1) := by decide +kernel
theorem dX12_ask_22 : decode cX12_ask 22 = .ok (.bipush (-4), 2) := by decide +kernel
theorem dX12_ask_24 : decode cX12_ask 24 = .ok (.istore_n 3, 1) := by decide +kernel
theorem dX12_ask_25 : decode cX12_ask 25 = .ok (.aload_n 0, 1) := by decide +kernel
theorem dX12_ask_26 : decode cX12_ask 26 = .ok (.iload_n 1, 1) := by decide +kernel
theorem dX12_ask_27 : decode cX12_ask 27 = .ok (.iload_n 2, 1) := by decide +kernel
theorem dX12_ask_28 : decode cX12_ask 28 = .ok (.invokevirtual 109, 3) := by decide +kernel
theorem dX12_ask_31 : decode cX12_ask 31 = .ok (.istore 4, 2) := by decide +kernel
theorem dX12_ask_33 : decode cX12_ask 33 = .ok (.iconst 0, 1) := by decide +kernel
theorem dX12_ask_34 : decode cX12_ask 34 = .ok (.istore 5, 2) := by decide +kernel
theorem dX12_ask_36 : decode cX12_ask 36 = .ok (.iload 5, 2) := by decide +kernel
theorem dX12_ask_38 : decode cX12_ask 38 = .ok (.aload_n 0, 1) := by decide +kernel
theorem dX12_ask_39 : decode cX12_ask 39 = .ok (.getfield 87, 3) := by decide +kernel
theorem dX12_ask_42 : decode cX12_ask 42 = .ok (.if_icmp .ge 84, 3) := by decide +kernel
theorem dX12_ask_45 : decode cX12_ask 45 = .ok (.iload 5, 2) := by decide +kernel
theorem dX12_ask_47 : decode cX12_ask 47 = .ok (.iload_n 1, 1) := by decide +kernel
theorem dX12_ask_48 : decode cX12_ask 48 = .ok (.if_icmp .ne 7, 3) := by decide +kernel
theorem dX12_ask_51 : decode cX12_ask 51 = .ok (.iconst (-1), 1) := by decide +kernel
theorem dX12_ask_52 : decode cX12_ask 52 = .ok (.goto 36, 3) := by decide +kernel
theorem dX12_ask_55 : decode cX12_ask 55 = .ok (.aload_n 0, 1) := by decide +kernel
theorem dX12_ask_56 : decode cX12_ask 56 = .ok (.iload_n 1, 1) := by decide +kernel
theorem dX12_ask_57 : decode cX12_ask 57 = .ok (.aload_n 0, 1) := by decide +kernel
theorem dX12_ask_58 : decode cX12_ask 58 = .ok (.getfield 28, 3) := by decide +kernel
theorem dX12_ask_61 : decode cX12_ask 61 = .ok (.iconst 5, 1) := by decide +kernel
theorem dX12_ask_62 : decode cX12_ask 62 = .ok (.iload_n 1, 1) := by decide +kernel
theorem dX12_ask_63 : decode cX12_ask 63 = .ok (.imul, 1) := by decide +kernel
theorem dX12_ask_64 : decode cX12_ask 64 = .ok (.iload_n 2, 1) := by decide +kernel
theorem dX12_ask_65 : decode cX12_ask 65 = .ok (.iadd, 1) := by decide +kernel
theorem dX12_ask_66 : decode cX12_ask 66 = .ok (.iaload, 1) := by decide +kernel
theorem dX12_ask_67 : decode cX12_ask 67 = .ok (.aload_n 0, 1) := by decide +kernel
theorem dX12_ask_68 : decode cX12_ask 68 = .ok (.getfield 28, 3) := by decide +kernel
theorem dX12_ask_71 : decode cX12_ask 71 = .ok (.iconst 5, 1) := by decide +kernel
theorem dX12_ask_72 : decode cX12_ask 72 = .ok (.iload 5, 2) := by decide +kernel
theorem dX12_ask_74 : decode cX12_ask 74 = .ok (.imul, 1) := by decide +kernel
theorem dX12_ask_75 : decode cX12_ask 75 = .ok (.iload_n 2, 1) := by decide +kernel
theorem dX12_ask_76 : decode cX12_ask 76 = .ok (.iadd, 1) := by decide +kernel
theorem dX12_ask_77 : decode cX12_ask 77 = .ok (.iaload, 1) := by decide +kernel
theorem dX12_ask_78 : decode cX12_ask 78 = .ok (.ior, 1) := by decide +kernel
theorem dX12_ask_79 : decode cX12_ask 79 = .ok (.aload_n 0, 1) := by decide +kernel
theorem dX12_ask_80 : decode cX12_ask 80 = .ok (.getfield 7, 3) := by decide +kernel
theorem dX12_ask_83 : decode cX12_ask 83 = .ok (.iload_n 2, 1) := by decide +kernel
theorem dX12_ask_84 : decode cX12_ask 84 = .ok (.iaload, 1) := by decide +kernel
theorem dX12_ask_85 : decode cX12_ask 85 = .ok (.invokevirtual 98, 3) := by decide +kernel
theorem dX12_ask_88 : decode cX12_ask 88 = .ok (.istore 6, 2) := by decide +kernel
theorem dX12_ask_90 : decode cX12_ask 90 = .ok (.iload 6, 2) := by decide +kernel
theorem dX12_ask_92 : decode cX12_ask 92 = .ok (.iload 4, 2) := by decide +kernel
theorem dX12_ask_94 : decode cX12_ask 94 = .ok (.if_icmp .le 8, 3) := by decide +kernel
theorem dX12_ask_97 : decode cX12_ask 97 = .ok (.iload 5, 2) := by decide +kernel
theorem dX12_ask_99 : decode cX12_ask 99 = .ok (.goto 4, 3) := by decide +kernel
theorem dX12_ask_102 : decode cX12_ask 102 = .ok (.iload_n 3, 1) := by decide +kernel
theorem dX12_ask_103 : decode cX12_ask 103 = .ok (.istore_n 3, 1) := by decide +kernel
theorem dX12_ask_104 : decode cX12_ask 104 = .ok (.iload 6, 2) := by decide +kernel
theorem dX12_ask_106 : decode cX12_ask 106 = .ok (.iload 4, 2) := by decide +kernel
theorem dX12_ask_108 : decode cX12_ask 108 = .ok (.if_icmp .le 8, 3) := by decide +kernel
theorem dX12_ask_111 : decode cX12_ask 111 = .ok (.iload 6, 2) := by decide +kernel
theorem dX12_ask_113 : decode cX12_ask 113 = .ok (.goto 5, 3) := by decide +kernel
theorem dX12_ask_116 : decode cX12_ask 116 = .ok (.iload 4, 2) := by decide +kernel
theorem dX12_ask_118 : decode cX12_ask 118 = .ok (.istore 4, 2) := by decide +kernel
theorem dX12_ask_120 : decode cX12_ask 120 = .ok (.iinc 5 1, 3) := by decide +kernel
theorem dX12_ask_123 : decode cX12_ask 123 = .ok (.goto (-87), 3) := by decide +kernel
theorem dX12_ask_126 : decode cX12_ask 126 = .ok (.iload_n 3, 1) := by decide +kernel
theorem dX12_ask_127 : decode cX12_ask 127 = .ok (.ireturn, 1) := by decide +kernel
theorem dX12_layCare_0 : decode cX12_layCare 0 = .ok (.sipush 767, 3) := by decide +kernel
theorem dX12_layCare_3 : decode cX12_layCare 3 = .ok (.istore_n 1, 1) := by decide +kernel
theorem dX12_layCare_4 : decode cX12_layCare 4 = .ok (.iload_n 1, 1) := by decide +kernel
theorem dX12_layCare_5 : decode cX12_layCare 5 = .ok (.ifCond .lt 143, 3) := by decide +kernel
theorem dX12_layCare_8 : decode cX12_layCare 8 = .ok (.iload_n 1, 1) := by decide +kernel
theorem dX12_layCare_9 : decode cX12_layCare 9 = .ok (.sipush 128, 3) := by decide +kernel
theorem dX12_layCare_12 : decode cX12_layCare 12 = .ok (.idiv, 1) := by decide +kernel
theorem dX12_layCare_13 : decode cX12_layCare 13 = .ok (.istore_n 2, 1) := by decide +kernel
theorem dX12_layCare_14 : decode cX12_layCare 14 = .ok (.iload_n 1, 1) := by decide +kernel
theorem dX12_layCare_15 : decode cX12_layCare 15 = .ok (.sipush 128, 3) := by decide +kernel
theorem dX12_layCare_18 : decode cX12_layCare 18 = .ok (.irem, 1) := by decide +kernel
theorem dX12_layCare_19 : decode cX12_layCare 19 = .ok (.istore_n 3, 1) := by decide +kernel
theorem dX12_layCare_20 : decode cX12_layCare 20 = .ok (.aload_n 0, 1) := by decide +kernel
theorem dX12_layCare_21 : decode cX12_layCare 21 = .ok (.getfield 65, 3) := by decide +kernel
theorem dX12_layCare_24 : decode cX12_layCare 24 = .ok (.iload_n 1, 1) := by decide +kernel
theorem dX12_layCare_25 : decode cX12_layCare 25 = .ok (.iload_n 2, 1) := by decide +kernel
theorem dX12_layCare_26 : decode cX12_layCare 26 = .ok (.iconst 5, 1) := by decide +kernel
theorem dX12_layCare_27 : decode cX12_layCare 27 = .ok (.if_icmp .ne 7, 3) := by decide +kernel
theorem dX12_layCare_30 : decode cX12_layCare 30 = .ok (.iconst 0, 1) := by decide +kernel
theorem dX12_layCare_31 : decode cX12_layCare 31 = .ok (.goto 17, 3) := by decide +kernel
theorem dX12_layCare_34 : decode cX12_layCare 34 = .ok (.aload_n 0, 1) := by decide +kernel
theorem dX12_layCare_35 : decode cX12_layCare 35 = .ok (.getfield 65, 3) := by decide +kernel
theorem dX12_layCare_38 : decode cX12_layCare 38 = .ok (.sipush 128, 3) := by decide +kernel
theorem dX12_layCare_41 : decode cX12_layCare 41 = .ok (.iload_n 2, 1) := by decide +kernel
theorem dX12_layCare_42 : decode cX12_layCare 42 = .ok (.iconst 1, 1) := by decide +kernel
theorem dX12_layCare_43 : decode cX12_layCare 43 = .ok (.iadd, 1) := by decide +kernel
theorem dX12_layCare_44 : decode cX12_layCare 44 = .ok (.imul, 1) := by decide +kernel
theorem dX12_layCare_45 : decode cX12_layCare 45 = .ok (.iload_n 3, 1) := by decide +kernel
theorem dX12_layCare_46 : decode cX12_layCare 46 = .ok (.iadd, 1) := by decide +kernel
theorem dX12_layCare_47 : decode cX12_layCare 47 = .ok (.iaload, 1) := by decide +kernel
theorem dX12_layCare_48 : decode cX12_layCare 48 = .ok (.iastore, 1) := by decide +kernel
theorem dX12_layCare_49 : decode cX12_layCare 49 = .ok (.iconst 0, 1) := by decide +kernel
theorem dX12_layCare_50 : decode cX12_layCare 50 = .ok (.istore 4, 2) := by decide +kernel
theorem dX12_layCare_52 : decode cX12_layCare 52 = .ok (.iload 4, 2) := by decide +kernel
theorem dX12_layCare_54 : decode cX12_layCare 54 = .ok (.aload_n 0, 1) := by decide +kernel
theorem dX12_layCare_55 : decode cX12_layCare 55 = .ok (.getfield 87, 3) := by decide +kernel
theorem dX12_layCare_58 : decode cX12_layCare 58 = .ok (.if_icmp .ge 84, 3) := by decide +kernel
theorem dX12_layCare_61 : decode cX12_layCare 61 = .ok (.iload_n 2, 1) := by decide +kernel
theorem dX12_layCare_62 : decode cX12_layCare 62 = .ok (.iconst 5, 1) := by decide +kernel
theorem dX12_layCare_63 : decode cX12_layCare 63 = .ok (.if_icmp .ge 79, 3) := by decide +kernel
theorem dX12_layCare_66 : decode cX12_layCare 66 = .ok (.iload_n 3, 1) := by decide +kernel
theorem dX12_layCare_67 : decode cX12_layCare 67 = .ok (.iload 4, 2) := by decide +kernel
theorem dX12_layCare_69 : decode cX12_layCare 69 = .ok (.invokestatic 105, 3) := by decide +kernel
theorem dX12_layCare_72 : decode cX12_layCare 72 = .ok (.ifCond .eq 7, 3) := by decide +kernel
theorem dX12_layCare_75 : decode cX12_layCare 75 = .ok (.iconst (-1), 1) := by decide +kernel
theorem dX12_layCare_76 : decode cX12_layCare 76 = .ok (.goto 30, 3) := by decide +kernel
theorem dX12_layCare_79 : decode cX12_layCare 79 = .ok (.aload_n 0, 1) := by decide +kernel
theorem dX12_layCare_80 : decode cX12_layCare 80 = .ok (.iload 4, 2) := by decide +kernel
theorem dX12_layCare_82 : decode cX12_layCare 82 = .ok (.iload_n 2, 1) := by decide +kernel
theorem dX12_layCare_83 : decode cX12_layCare 83 = .ok (.invokevirtual 109, 3) := by decide +kernel
theorem dX12_layCare_86 : decode cX12_layCare 86 = .ok (.aload_n 0, 1) := by decide +kernel
theorem dX12_layCare_87 : decode cX12_layCare 87 = .ok (.getfield 65, 3) := by decide +kernel
theorem dX12_layCare_90 : decode cX12_layCare 90 = .ok (.sipush 128, 3) := by decide +kernel
theorem dX12_layCare_93 : decode cX12_layCare 93 = .ok (.iload_n 2, 1) := by decide +kernel
theorem dX12_layCare_94 : decode cX12_layCare 94 = .ok (.iconst 1, 1) := by decide +kernel
theorem dX12_layCare_95 : decode cX12_layCare 95 = .ok (.iadd, 1) := by decide +kernel
theorem dX12_layCare_96 : decode cX12_layCare 96 = .ok (.imul, 1) := by decide +kernel
theorem dX12_layCare_97 : decode cX12_layCare 97 = .ok (.iload_n 3, 1) := by decide +kernel
theorem dX12_layCare_98 : decode cX12_layCare 98 = .ok (.iconst 1, 1) := by decide +kernel
theorem dX12_layCare_99 : decode cX12_layCare 99 = .ok (.iload 4, 2) := by decide +kernel
theorem dX12_layCare_101 : decode cX12_layCare 101 = .ok (.ishl, 1) := by decide +kernel
theorem dX12_layCare_102 : decode cX12_layCare 102 = .ok (.ior, 1) := by decide +kernel
theorem dX12_layCare_103 : decode cX12_layCare 103 = .ok (.iadd, 1) := by decide +kernel
theorem dX12_layCare_104 : decode cX12_layCare 104 = .ok (.iaload, 1) := by decide +kernel
theorem dX12_layCare_105 : decode cX12_layCare 105 = .ok (.iadd, 1) := by decide +kernel
theorem dX12_layCare_106 : decode cX12_layCare 106 = .ok (.istore 5, 2) := by decide +kernel
theorem dX12_layCare_108 : decode cX12_layCare 108 = .ok (.aload_n 0, 1) := by decide +kernel
theorem dX12_layCare_109 : decode cX12_layCare 109 = .ok (.getfield 65, 3) := by decide +kernel
theorem dX12_layCare_112 : decode cX12_layCare 112 = .ok (.iload_n 1, 1) := by decide +kernel
theorem dX12_layCare_113 : decode cX12_layCare 113 = .ok (.iload 5, 2) := by decide +kernel
theorem dX12_layCare_115 : decode cX12_layCare 115 = .ok (.aload_n 0, 1) := by decide +kernel
theorem dX12_layCare_116 : decode cX12_layCare 116 = .ok (.getfield 65, 3) := by decide +kernel
theorem dX12_layCare_119 : decode cX12_layCare 119 = .ok (.iload_n 1, 1) := by decide +kernel
theorem dX12_layCare_120 : decode cX12_layCare 120 = .ok (.iaload, 1) := by decide +kernel
theorem dX12_layCare_121 : decode cX12_layCare 121 = .ok (.if_icmp .le 8, 3) := by decide +kernel
theorem dX12_layCare_124 : decode cX12_layCare 124 = .ok (.iload 5, 2) := by decide +kernel
theorem dX12_layCare_126 : decode cX12_layCare 126 = .ok (.goto 9, 3) := by decide +kernel
theorem dX12_layCare_129 : decode cX12_layCare 129 = .ok (.aload_n 0, 1) := by decide +kernel
theorem dX12_layCare_130 : decode cX12_layCare 130 = .ok (.getfield 65, 3) := by decide +kernel
theorem dX12_layCare_133 : decode cX12_layCare 133 = .ok (.iload_n 1, 1) := by decide +kernel
theorem dX12_layCare_134 : decode cX12_layCare 134 = .ok (.iaload, 1) := by decide +kernel
theorem dX12_layCare_135 : decode cX12_layCare 135 = .ok (.iastore, 1) := by decide +kernel
theorem dX12_layCare_136 : decode cX12_layCare 136 = .ok (.iinc 4 1, 3) := by decide +kernel
theorem dX12_layCare_139 : decode cX12_layCare 139 = .ok (.goto (-87), 3) := by decide +kernel
theorem dX12_layCare_142 : decode cX12_layCare 142 = .ok (.iinc 1 (-1), 3) := by decide +kernel
theorem dX12_layCare_145 : decode cX12_layCare 145 = .ok (.goto (-141), 3) := by decide +kernel
theorem dX12_layCare_148 : decode cX12_layCare 148 = .ok (.return_, 1) := by decide +kernel
theorem dX12_carerOf_0 : decode cX12_carerOf 0 = .ok (.iconst 0, 1) := by decide +kernel
theorem dX12_carerOf_1 : decode cX12_carerOf 1 = .ok (.istore_n 3, 1) := by decide +kernel
theorem dX12_carerOf_2 : decode cX12_carerOf 2 = .ok (.iload_n 3, 1) := by decide +kernel
theorem dX12_carerOf_3 : decode cX12_carerOf 3 = .ok (.aload_n 0, 1) := by decide +kernel
theorem dX12_carerOf_4 : decode cX12_carerOf 4 = .ok (.getfield 87, 3) := by decide +kernel
theorem dX12_carerOf_7 : decode cX12_carerOf 7 = .ok (.if_icmp .ge 59, 3) := by decide +kernel
theorem dX12_carerOf_10 : decode cX12_carerOf 10 = .ok (.iload_n 2, 1) := by decide +kernel
theorem dX12_carerOf_11 : decode cX12_carerOf 11 = .ok (.iload_n 3, 1) := by decide +kernel
theorem dX12_carerOf_12 : decode cX12_carerOf 12 = .ok (.invokestatic 105, 3) := by decide +kernel
theorem dX12_carerOf_15 : decode cX12_carerOf 15 = .ok (.ifCond .ne 45, 3) := by decide +kernel
theorem dX12_carerOf_18 : decode cX12_carerOf 18 = .ok (.aload_n 0, 1) := by decide +kernel
theorem dX12_carerOf_19 : decode cX12_carerOf 19 = .ok (.iload_n 3, 1) := by decide +kernel
theorem dX12_carerOf_20 : decode cX12_carerOf 20 = .ok (.iload_n 1, 1) := by decide +kernel
theorem dX12_carerOf_21 : decode cX12_carerOf 21 = .ok (.invokevirtual 109, 3) := by decide +kernel
theorem dX12_carerOf_24 : decode cX12_carerOf 24 = .ok (.aload_n 0, 1) := by decide +kernel
theorem dX12_carerOf_25 : decode cX12_carerOf 25 = .ok (.getfield 65, 3) := by decide +kernel
theorem dX12_carerOf_28 : decode cX12_carerOf 28 = .ok (.sipush 128, 3) := by decide +kernel
theorem dX12_carerOf_31 : decode cX12_carerOf 31 = .ok (.iload_n 1, 1) := by decide +kernel
theorem dX12_carerOf_32 : decode cX12_carerOf 32 = .ok (.iconst 1, 1) := by decide +kernel
theorem dX12_carerOf_33 : decode cX12_carerOf 33 = .ok (.iadd, 1) := by decide +kernel
theorem dX12_carerOf_34 : decode cX12_carerOf 34 = .ok (.imul, 1) := by decide +kernel
theorem dX12_carerOf_35 : decode cX12_carerOf 35 = .ok (.iload_n 2, 1) := by decide +kernel
theorem dX12_carerOf_36 : decode cX12_carerOf 36 = .ok (.iconst 1, 1) := by decide +kernel
theorem dX12_carerOf_37 : decode cX12_carerOf 37 = .ok (.iload_n 3, 1) := by decide +kernel
theorem dX12_carerOf_38 : decode cX12_carerOf 38 = .ok (.ishl, 1) := by decide +kernel
theorem dX12_carerOf_39 : decode cX12_carerOf 39 = .ok (.ior, 1) := by decide +kernel
theorem dX12_carerOf_40 : decode cX12_carerOf 40 = .ok (.iadd, 1) := by decide +kernel
theorem dX12_carerOf_41 : decode cX12_carerOf 41 = .ok (.iaload, 1) := by decide +kernel
theorem dX12_carerOf_42 : decode cX12_carerOf 42 = .ok (.iadd, 1) := by decide +kernel
theorem dX12_carerOf_43 : decode cX12_carerOf 43 = .ok (.aload_n 0, 1) := by decide +kernel
theorem dX12_carerOf_44 : decode cX12_carerOf 44 = .ok (.getfield 65, 3) := by decide +kernel
theorem dX12_carerOf_47 : decode cX12_carerOf 47 = .ok (.sipush 128, 3) := by decide +kernel
theorem dX12_carerOf_50 : decode cX12_carerOf 50 = .ok (.iload_n 1, 1) := by decide +kernel
theorem dX12_carerOf_51 : decode cX12_carerOf 51 = .ok (.imul, 1) := by decide +kernel
theorem dX12_carerOf_52 : decode cX12_carerOf 52 = .ok (.iload_n 2, 1) := by decide +kernel
theorem dX12_carerOf_53 : decode cX12_carerOf 53 = .ok (.iadd, 1) := by decide +kernel
theorem dX12_carerOf_54 : decode cX12_carerOf 54 = .ok (.iaload, 1) := by decide +kernel
theorem dX12_carerOf_55 : decode cX12_carerOf 55 = .ok (.if_icmp .ne 5, 3) := by decide +kernel
theorem dX12_carerOf_58 : decode cX12_carerOf 58 = .ok (.iload_n 3, 1) := by decide +kernel
theorem dX12_carerOf_59 : decode cX12_carerOf 59 = .ok (.ireturn, 1) := by decide +kernel
theorem dX12_carerOf_60 : decode cX12_carerOf 60 = .ok (.iinc 3 1, 3) := by decide +kernel
theorem dX12_carerOf_63 : decode cX12_carerOf 63 = .ok (.goto (-61), 3) := by decide +kernel
theorem dX12_carerOf_66 : decode cX12_carerOf 66 = .ok (.bipush 9, 2) := by decide +kernel
theorem dX12_carerOf_68 : decode cX12_carerOf 68 = .ok (.ireturn, 1) := by decide +kernel
theorem dX12_care_0 : decode cX12_care 0 = .ok (.aload_n 0, 1) := by decide +kernel
theorem dX12_care_1 : decode cX12_care 1 = .ok (.iconst 0, 1) := by decide +kernel
theorem dX12_care_2 : decode cX12_care 2 = .ok (.putfield 77, 3) := by decide +kernel
theorem dX12_care_5 : decode cX12_care 5 = .ok (.iload_n 1, 1) := by decide +kernel
theorem dX12_care_6 : decode cX12_care 6 = .ok (.i2l, 1) := by decide +kernel
theorem dX12_care_7 : decode cX12_care 7 = .ok (.ldc2_w 244, 3) := by decide +kernel
theorem dX12_care_10 : decode cX12_care 10 = .ok (.ldc2_w 81, 3) := by decide +kernel
theorem dX12_care_13 : decode cX12_care 13 = .ok (.invokestatic 83, 3) := by decide +kernel
theorem dX12_care_16 : decode cX12_care 16 = .ok (.ifCond .ne 5, 3) := by decide +kernel
theorem dX12_care_19 : decode cX12_care 19 = .ok (.iconst (-1), 1) := by decide +kernel
theorem dX12_care_20 : decode cX12_care 20 = .ok (.ireturn, 1) := by decide +kernel
theorem dX12_care_21 : decode cX12_care 21 = .ok (.aload_n 0, 1) := by decide +kernel
theorem dX12_care_22 : decode cX12_care 22 = .ok (.invokevirtual 246, 3) := by decide +kernel
theorem dX12_care_25 : decode cX12_care 25 = .ok (.iconst 0, 1) := by decide +kernel
theorem dX12_care_26 : decode cX12_care 26 = .ok (.istore_n 2, 1) := by decide +kernel
theorem dX12_care_27 : decode cX12_care 27 = .ok (.bipush 9, 2) := by decide +kernel
theorem dX12_care_29 : decode cX12_care 29 = .ok (.istore_n 3, 1) := by decide +kernel
theorem dX12_care_30 : decode cX12_care 30 = .ok (.iconst 0, 1) := by decide +kernel
theorem dX12_care_31 : decode cX12_care 31 = .ok (.istore 4, 2) := by decide +kernel
theorem dX12_care_33 : decode cX12_care 33 = .ok (.iload 4, 2) := by decide +kernel
theorem dX12_care_35 : decode cX12_care 35 = .ok (.iload_n 1, 1) := by decide +kernel
theorem dX12_care_36 : decode cX12_care 36 = .ok (.if_icmp .gt 33, 3) := by decide +kernel
theorem dX12_care_39 : decode cX12_care 39 = .ok (.aload_n 0, 1) := by decide +kernel
theorem dX12_care_40 : decode cX12_care 40 = .ok (.iload 4, 2) := by decide +kernel
theorem dX12_care_42 : decode cX12_care 42 = .ok (.iload_n 2, 1) := by decide +kernel
theorem dX12_care_43 : decode cX12_care 43 = .ok (.invokevirtual 249, 3) := by decide +kernel
theorem dX12_care_46 : decode cX12_care 46 = .ok (.istore_n 3, 1) := by decide +kernel
theorem dX12_care_47 : decode cX12_care 47 = .ok (.iload_n 2, 1) := by decide +kernel
theorem dX12_care_48 : decode cX12_care 48 = .ok (.iload_n 3, 1) := by decide +kernel
theorem dX12_care_49 : decode cX12_care 49 = .ok (.bipush 9, 2) := by decide +kernel
theorem dX12_care_51 : decode cX12_care 51 = .ok (.if_icmp .ne 7, 3) := by decide +kernel
theorem dX12_care_54 : decode cX12_care 54 = .ok (.iconst 0, 1) := by decide +kernel
theorem dX12_care_55 : decode cX12_care 55 = .ok (.goto 6, 3) := by decide +kernel
theorem dX12_care_58 : decode cX12_care 58 = .ok (.iconst 1, 1) := by decide +kernel
theorem dX12_care_59 : decode cX12_care 59 = .ok (.iload_n 3, 1) := by decide +kernel
theorem dX12_care_60 : decode cX12_care 60 = .ok (.ishl, 1) := by decide +kernel
theorem dX12_care_61 : decode cX12_care 61 = .ok (.ior, 1) := by decide +kernel
theorem dX12_care_62 : decode cX12_care 62 = .ok (.istore_n 2, 1) := by decide +kernel
theorem dX12_care_63 : decode cX12_care 63 = .ok (.iinc 4 1, 3) := by decide +kernel
theorem dX12_care_66 : decode cX12_care 66 = .ok (.goto (-33), 3) := by decide +kernel
theorem dX12_care_69 : decode cX12_care 69 = .ok (.iload_n 1, 1) := by decide +kernel
theorem dX12_care_70 : decode cX12_care 70 = .ok (.ifCond .ge 12, 3) := by decide +kernel
theorem dX12_care_73 : decode cX12_care 73 = .ok (.aload_n 0, 1) := by decide +kernel
theorem dX12_care_74 : decode cX12_care 74 = .ok (.getfield 65, 3) := by decide +kernel
theorem dX12_care_77 : decode cX12_care 77 = .ok (.iconst 0, 1) := by decide +kernel
theorem dX12_care_78 : decode cX12_care 78 = .ok (.iaload, 1) := by decide +kernel
theorem dX12_care_79 : decode cX12_care 79 = .ok (.goto 7, 3) := by decide +kernel
theorem dX12_care_82 : decode cX12_care 82 = .ok (.iload_n 3, 1) := by decide +kernel
theorem dX12_care_83 : decode cX12_care 83 = .ok (.invokestatic 223, 3) := by decide +kernel
theorem dX12_care_86 : decode cX12_care 86 = .ok (.ireturn, 1) := by decide +kernel
theorem dX12_richestOne_0 : decode cX12_richestOne 0 = .ok (.bipush (-4), 2) := by decide +kernel
theorem dX12_richestOne_2 : decode cX12_richestOne 2 = .ok (.istore_n 1, 1) := by decide +kernel
theorem dX12_richestOne_3 : decode cX12_richestOne 3 = .ok (.iconst 0, 1) := by decide +kernel
theorem dX12_richestOne_4 : decode cX12_richestOne 4 = .ok (.istore_n 2, 1) := by decide +kernel
theorem dX12_richestOne_5 : decode cX12_richestOne 5 = .ok (.iload_n 2, 1) := by decide +kernel
theorem dX12_richestOne_6 : decode cX12_richestOne 6 = .ok (.aload_n 0, 1) := by decide +kernel
theorem dX12_richestOne_7 : decode cX12_richestOne 7 = .ok (.getfield 87, 3) := by decide +kernel
theorem dX12_richestOne_10 : decode cX12_richestOne 10 = .ok (.if_icmp .ge 32, 3) := by decide +kernel
theorem dX12_richestOne_13 : decode cX12_richestOne 13 = .ok (.iload_n 1, 1) := by decide +kernel
theorem dX12_richestOne_14 : decode cX12_richestOne 14 = .ok (.ifCond .lt 16, 3) := by decide +kernel
theorem dX12_richestOne_17 : decode cX12_richestOne 17 = .ok (.aload_n 0, 1) := by decide +kernel
theorem dX12_richestOne_18 : decode cX12_richestOne 18 = .ok (.iload_n 2, 1) := by decide +kernel
theorem dX12_richestOne_19 : decode cX12_richestOne 19 = .ok (.invokevirtual 238, 3) := by decide +kernel
theorem dX12_richestOne_22 : decode cX12_richestOne 22 = .ok (.aload_n 0, 1) := by decide +kernel
theorem dX12_richestOne_23 : decode cX12_richestOne 23 = .ok (.iload_n 1, 1) := by decide +kernel
theorem dX12_richestOne_24 : decode cX12_richestOne 24 = .ok (.invokevirtual 238, 3) := by decide +kernel
theorem dX12_richestOne_27 : decode cX12_richestOne 27 = .ok (.if_icmp .le 7, 3) := by decide +kernel
theorem dX12_richestOne_30 : decode cX12_richestOne 30 = .ok (.iload_n 2, 1) := by decide +kernel
theorem dX12_richestOne_31 : decode cX12_richestOne 31 = .ok (.goto 4, 3) := by decide +kernel
theorem dX12_richestOne_34 : decode cX12_richestOne 34 = .ok (.iload_n 1, 1) := by decide +kernel
theorem dX12_richestOne_35 : decode cX12_richestOne 35 = .ok (.istore_n 1, 1) := by decide +kernel
theorem dX12_richestOne_36 : decode cX12_richestOne 36 = .ok (.iinc 2 1, 3) := by decide +kernel
theorem dX12_richestOne_39 : decode cX12_richestOne 39 = .ok (.goto (-34), 3) := by decide +kernel
theorem dX12_richestOne_42 : decode cX12_richestOne 42 = .ok (.iload_n 1, 1) := by decide +kernel
theorem dX12_richestOne_43 : decode cX12_richestOne 43 = .ok (.ireturn, 1) := by decide +kernel
theorem dX12_longestStory_0 : decode cX12_longestStory 0 = .ok (.bipush (-4), 2) := by decide +kernel
theorem dX12_longestStory_2 : decode cX12_longestStory 2 = .ok (.istore_n 1, 1) := by decide +kernel
theorem dX12_longestStory_3 : decode cX12_longestStory 3 = .ok (.iconst 0, 1) := by decide +kernel
theorem dX12_longestStory_4 : decode cX12_longestStory 4 = .ok (.istore_n 2, 1) := by decide +kernel
theorem dX12_longestStory_5 : decode cX12_longestStory 5 = .ok (.iconst 0, 1) := by decide +kernel
theorem dX12_longestStory_6 : decode cX12_longestStory 6 = .ok (.istore_n 3, 1) := by decide +kernel
theorem dX12_longestStory_7 : decode cX12_longestStory 7 = .ok (.iload_n 3, 1) := by decide +kernel
theorem dX12_longestStory_8 : decode cX12_longestStory 8 = .ok (.iconst 5, 1) := by decide +kernel
theorem dX12_longestStory_9 : decode cX12_longestStory 9 = .ok (.aload_n 0, 1) := by decide +kernel
theorem dX12_longestStory_10 : decode cX12_longestStory 10 = .ok (.getfield 87, 3) := by decide +kernel
theorem dX12_longestStory_13 : decode cX12_longestStory 13 = .ok (.imul, 1) := by decide +kernel
theorem dX12_longestStory_14 : decode cX12_longestStory 14 = .ok (.if_icmp .ge 55, 3) := by decide +kernel
theorem dX12_longestStory_17 : decode cX12_longestStory 17 = .ok (.aload_n 0, 1) := by decide +kernel
theorem dX12_longestStory_18 : decode cX12_longestStory 18 = .ok (.iload_n 3, 1) := by decide +kernel
theorem dX12_longestStory_19 : decode cX12_longestStory 19 = .ok (.iconst 5, 1) := by decide +kernel
theorem dX12_longestStory_20 : decode cX12_longestStory 20 = .ok (.idiv, 1) := by decide +kernel
theorem dX12_longestStory_21 : decode cX12_longestStory 21 = .ok (.iload_n 3, 1) := by decide +kernel
theorem dX12_longestStory_22 : decode cX12_longestStory 22 = .ok (.iconst 5, 1) := by decide +kernel
theorem dX12_longestStory_23 : decode cX12_longestStory 23 = .ok (.irem, 1) := by decide +kernel
theorem dX12_longestStory_24 : decode cX12_longestStory 24 = .ok (.invokevirtual 109, 3) := by decide +kernel
theorem dX12_longestStory_27 : decode cX12_longestStory 27 = .ok (.istore 4, 2) := by decide +kernel
theorem dX12_longestStory_29 : decode cX12_longestStory 29 = .ok (.iload 4, 2) := by decide +kernel
theorem dX12_longestStory_31 : decode cX12_longestStory 31 = .ok (.iload_n 2, 1) := by decide +kernel
theorem dX12_longestStory_32 : decode cX12_longestStory 32 = .ok (.if_icmp .le 16, 3) := by decide +kernel
theorem dX12_longestStory_35 : decode cX12_longestStory 35 = .ok (.bipush 10, 2) := by decide +kernel
theorem dX12_longestStory_37 : decode cX12_longestStory 37 = .ok (.iload_n 3, 1) := by decide +kernel
theorem dX12_longestStory_38 : decode cX12_longestStory 38 = .ok (.iconst 5, 1) := by decide +kernel
theorem dX12_longestStory_39 : decode cX12_longestStory 39 = .ok (.idiv, 1) := by decide +kernel
theorem dX12_longestStory_40 : decode cX12_longestStory 40 = .ok (.imul, 1) := by decide +kernel
theorem dX12_longestStory_41 : decode cX12_longestStory 41 = .ok (.iload_n 3, 1) := by decide +kernel
theorem dX12_longestStory_42 : decode cX12_longestStory 42 = .ok (.iconst 5, 1) := by decide +kernel
theorem dX12_longestStory_43 : decode cX12_longestStory 43 = .ok (.irem, 1) := by decide +kernel
theorem dX12_longestStory_44 : decode cX12_longestStory 44 = .ok (.iadd, 1) := by decide +kernel
theorem dX12_longestStory_45 : decode cX12_longestStory 45 = .ok (.goto 4, 3) := by decide +kernel
theorem dX12_longestStory_48 : decode cX12_longestStory 48 = .ok (.iload_n 1, 1) := by decide +kernel
theorem dX12_longestStory_49 : decode cX12_longestStory 49 = .ok (.istore_n 1, 1) := by decide +kernel
theorem dX12_longestStory_50 : decode cX12_longestStory 50 = .ok (.iload 4, 2) := by decide +kernel
theorem dX12_longestStory_52 : decode cX12_longestStory 52 = .ok (.iload_n 2, 1) := by decide +kernel
theorem dX12_longestStory_53 : decode cX12_longestStory 53 = .ok (.if_icmp .le 8, 3) := by decide +kernel
theorem dX12_longestStory_56 : decode cX12_longestStory 56 = .ok (.iload 4, 2) := by decide +kernel
theorem dX12_longestStory_58 : decode cX12_longestStory 58 = .ok (.goto 4, 3) := by decide +kernel
theorem dX12_longestStory_61 : decode cX12_longestStory 61 = .ok (.iload_n 2, 1) := by decide +kernel
theorem dX12_longestStory_62 : decode cX12_longestStory 62 = .ok (.istore_n 2, 1) := by decide +kernel
theorem dX12_longestStory_63 : decode cX12_longestStory 63 = .ok (.iinc 3 1, 3) := by decide +kernel
theorem dX12_longestStory_66 : decode cX12_longestStory 66 = .ok (.goto (-59), 3) := by decide +kernel
theorem dX12_longestStory_69 : decode cX12_longestStory 69 = .ok (.iload_n 1, 1) := by decide +kernel
theorem dX12_longestStory_70 : decode cX12_longestStory 70 = .ok (.ireturn, 1) := by decide +kernel
theorem dX12_stillIn_0 : decode cX12_stillIn 0 = .ok (.iconst 0, 1) := by decide +kernel
theorem dX12_stillIn_1 : decode cX12_stillIn 1 = .ok (.istore_n 1, 1) := by decide +kernel
theorem dX12_stillIn_2 : decode cX12_stillIn 2 = .ok (.bipush (-4), 2) := by decide +kernel
theorem dX12_stillIn_4 : decode cX12_stillIn 4 = .ok (.istore_n 2, 1) := by decide +kernel
theorem dX12_stillIn_5 : decode cX12_stillIn 5 = .ok (.aload_n 0, 1) := by decide +kernel
theorem dX12_stillIn_6 : decode cX12_stillIn 6 = .ok (.invokevirtual 193, 3) := by decide +kernel
theorem dX12_stillIn_9 : decode cX12_stillIn 9 = .ok (.iconst 1, 1) := by decide +kernel
theorem dX12_stillIn_10 : decode cX12_stillIn 10 = .ok (.istore_n 3, 1) := by decide +kernel
theorem dX12_stillIn_11 : decode cX12_stillIn 11 = .ok (.iload_n 3, 1) := by decide +kernel
theorem dX12_stillIn_12 : decode cX12_stillIn 12 = .ok (.bipush 60, 2) := by decide +kernel
theorem dX12_stillIn_14 : decode cX12_stillIn 14 = .ok (.if_icmp .gt 99, 3) := by decide +kernel
theorem dX12_stillIn_17 : decode cX12_stillIn 17 = .ok (.iload_n 2, 1) := by decide +kernel
theorem dX12_stillIn_18 : decode cX12_stillIn 18 = .ok (.ifCond .ge 95, 3) := by decide +kernel
theorem dX12_stillIn_21 : decode cX12_stillIn 21 = .ok (.iconst 0, 1) := by decide +kernel
theorem dX12_stillIn_22 : decode cX12_stillIn 22 = .ok (.istore 4, 2) := by decide +kernel
theorem dX12_stillIn_24 : decode cX12_stillIn 24 = .ok (.iload 4, 2) := by decide +kernel
theorem dX12_stillIn_26 : decode cX12_stillIn 26 = .ok (.iconst 5, 1) := by decide +kernel
theorem dX12_stillIn_27 : decode cX12_stillIn 27 = .ok (.if_icmp .ge 23, 3) := by decide +kernel
theorem dX12_stillIn_30 : decode cX12_stillIn 30 = .ok (.aload_n 0, 1) := by decide +kernel
theorem dX12_stillIn_31 : decode cX12_stillIn 31 = .ok (.getfield 68, 3) := by decide +kernel
theorem dX12_stillIn_34 : decode cX12_stillIn 34 = .ok (.iload 4, 2) := by decide +kernel
theorem dX12_stillIn_36 : decode cX12_stillIn 36 = .ok (.aload_n 0, 1) := by decide +kernel
theorem dX12_stillIn_37 : decode cX12_stillIn 37 = .ok (.getfield 16, 3) := by decide +kernel
theorem dX12_stillIn_40 : decode cX12_stillIn 40 = .ok (.iload 4, 2) := by decide +kernel
theorem dX12_stillIn_42 : decode cX12_stillIn 42 = .ok (.iaload, 1) := by decide +kernel
theorem dX12_stillIn_43 : decode cX12_stillIn 43 = .ok (.iastore, 1) := by decide +kernel
theorem dX12_stillIn_44 : decode cX12_stillIn 44 = .ok (.iinc 4 1, 3) := by decide +kernel
theorem dX12_stillIn_47 : decode cX12_stillIn 47 = .ok (.goto (-23), 3) := by decide +kernel
theorem dX12_stillIn_50 : decode cX12_stillIn 50 = .ok (.aload_n 0, 1) := by decide +kernel
theorem dX12_stillIn_51 : decode cX12_stillIn 51 = .ok (.invokevirtual 132, 3) := by decide +kernel
theorem dX12_stillIn_54 : decode cX12_stillIn 54 = .ok (.iconst 0, 1) := by decide +kernel
theorem dX12_stillIn_55 : decode cX12_stillIn 55 = .ok (.istore 4, 2) := by decide +kernel
theorem dX12_stillIn_57 : decode cX12_stillIn 57 = .ok (.iload 4, 2) := by decide +kernel
theorem dX12_stillIn_59 : decode cX12_stillIn 59 = .ok (.iconst 5, 1) := by decide +kernel
theorem dX12_stillIn_60 : decode cX12_stillIn 60 = .ok (.if_icmp .ge 32, 3) := by decide +kernel
theorem dX12_stillIn_63 : decode cX12_stillIn 63 = .ok (.aload_n 0, 1) := by decide +kernel
theorem dX12_stillIn_64 : decode cX12_stillIn 64 = .ok (.getfield 16, 3) := by decide +kernel
theorem dX12_stillIn_67 : decode cX12_stillIn 67 = .ok (.iload 4, 2) := by decide +kernel
theorem dX12_stillIn_69 : decode cX12_stillIn 69 = .ok (.iaload, 1) := by decide +kernel
theorem dX12_stillIn_70 : decode cX12_stillIn 70 = .ok (.aload_n 0, 1) := by decide +kernel
theorem dX12_stillIn_71 : decode cX12_stillIn 71 = .ok (.getfield 68, 3) := by decide +kernel
theorem dX12_stillIn_74 : decode cX12_stillIn 74 = .ok (.iload 4, 2) := by decide +kernel
theorem dX12_stillIn_76 : decode cX12_stillIn 76 = .ok (.iaload, 1) := by decide +kernel
theorem dX12_stillIn_77 : decode cX12_stillIn 77 = .ok (.if_icmp .eq 7, 3) := by decide +kernel
theorem dX12_stillIn_80 : decode cX12_stillIn 80 = .ok (.iload_n 3, 1) := by decide +kernel
theorem dX12_stillIn_81 : decode cX12_stillIn 81 = .ok (.goto 4, 3) := by decide +kernel
theorem dX12_stillIn_84 : decode cX12_stillIn 84 = .ok (.iload_n 1, 1) := by decide +kernel
theorem dX12_stillIn_85 : decode cX12_stillIn 85 = .ok (.istore_n 1, 1) := by decide +kernel
theorem dX12_stillIn_86 : decode cX12_stillIn 86 = .ok (.iinc 4 1, 3) := by decide +kernel
theorem dX12_stillIn_89 : decode cX12_stillIn 89 = .ok (.goto (-32), 3) := by decide +kernel
theorem dX12_stillIn_92 : decode cX12_stillIn 92 = .ok (.iload_n 3, 1) := by decide +kernel
theorem dX12_stillIn_93 : decode cX12_stillIn 93 = .ok (.iload_n 1, 1) := by decide +kernel
theorem dX12_stillIn_94 : decode cX12_stillIn 94 = .ok (.isub, 1) := by decide +kernel
theorem dX12_stillIn_95 : decode cX12_stillIn 95 = .ok (.bipush 10, 2) := by decide +kernel
theorem dX12_stillIn_97 : decode cX12_stillIn 97 = .ok (.if_icmp .ne 7, 3) := by decide +kernel
theorem dX12_stillIn_100 : decode cX12_stillIn 100 = .ok (.iload_n 1, 1) := by decide +kernel
theorem dX12_stillIn_101 : decode cX12_stillIn 101 = .ok (.goto 5, 3) := by decide +kernel
theorem dX12_stillIn_104 : decode cX12_stillIn 104 = .ok (.bipush (-4), 2) := by decide +kernel
theorem dX12_stillIn_106 : decode cX12_stillIn 106 = .ok (.istore_n 2, 1) := by decide +kernel
theorem dX12_stillIn_107 : decode cX12_stillIn 107 = .ok (.iinc 3 1, 3) := by decide +kernel
theorem dX12_stillIn_110 : decode cX12_stillIn 110 = .ok (.goto (-99), 3) := by decide +kernel
theorem dX12_stillIn_113 : decode cX12_stillIn 113 = .ok (.aload_n 0, 1) := by decide +kernel
theorem dX12_stillIn_114 : decode cX12_stillIn 114 = .ok (.invokevirtual 199, 3) := by decide +kernel
theorem dX12_stillIn_117 : decode cX12_stillIn 117 = .ok (.iload_n 2, 1) := by decide +kernel
theorem dX12_stillIn_118 : decode cX12_stillIn 118 = .ok (.ireturn, 1) := by decide +kernel
theorem dX12_richest_0 : decode cX12_richest 0 = .ok (.aload_n 0, 1) := by decide +kernel
theorem dX12_richest_1 : decode cX12_richest 1 = .ok (.iconst 0, 1) := by decide +kernel
theorem dX12_richest_2 : decode cX12_richest 2 = .ok (.putfield 77, 3) := by decide +kernel
theorem dX12_richest_5 : decode cX12_richest 5 = .ok (.iload_n 1, 1) := by decide +kernel
theorem dX12_richest_6 : decode cX12_richest 6 = .ok (.tableswitch 52 0 3 #[30, 35, 42, 47], 30) := by decide +kernel
theorem dX12_richest_36 : decode cX12_richest 36 = .ok (.aload_n 0, 1) := by decide +kernel
theorem dX12_richest_37 : decode cX12_richest 37 = .ok (.invokevirtual 252, 3) := by decide +kernel
theorem dX12_richest_40 : decode cX12_richest 40 = .ok (.ireturn, 1) := by decide +kernel
theorem dX12_richest_41 : decode cX12_richest 41 = .ok (.aload_n 0, 1) := by decide +kernel
theorem dX12_richest_42 : decode cX12_richest 42 = .ok (.bipush 9, 2) := by decide +kernel
theorem dX12_richest_44 : decode cX12_richest 44 = .ok (.invokevirtual 135, 3) := by decide +kernel
theorem dX12_richest_47 : decode cX12_richest 47 = .ok (.ireturn, 1) := by decide +kernel
theorem dX12_richest_48 : decode cX12_richest 48 = .ok (.aload_n 0, 1) := by decide +kernel
theorem dX12_richest_49 : decode cX12_richest 49 = .ok (.invokevirtual 255, 3) := by decide +kernel
theorem dX12_richest_52 : decode cX12_richest 52 = .ok (.ireturn, 1) := by decide +kernel
theorem dX12_richest_53 : decode cX12_richest 53 = .ok (.aload_n 0, 1) := by decide +kernel
theorem dX12_richest_54 : decode cX12_richest 54 = .ok (.invokevirtual 258, 3) := by decide +kernel
theorem dX12_richest_57 : decode cX12_richest 57 = .ok (.ireturn, 1) := by decide +kernel
theorem dX12_richest_58 : decode cX12_richest 58 = .ok (.iconst (-1), 1) := by decide +kernel
theorem dX12_richest_59 : decode cX12_richest 59 = .ok (.ireturn, 1) := by decide +kernel
theorem dX12_rivalTwos_0 : decode cX12_rivalTwos 0 = .ok (.iconst 0, 1) := by decide +kernel
theorem dX12_rivalTwos_1 : decode cX12_rivalTwos 1 = .ok (.istore_n 2, 1) := by decide +kernel
theorem dX12_rivalTwos_2 : decode cX12_rivalTwos 2 = .ok (.iconst 0, 1) := by decide +kernel
theorem dX12_rivalTwos_3 : decode cX12_rivalTwos 3 = .ok (.istore_n 3, 1) := by decide +kernel
theorem dX12_rivalTwos_4 : decode cX12_rivalTwos 4 = .ok (.iload_n 3, 1) := by decide +kernel
theorem dX12_rivalTwos_5 : decode cX12_rivalTwos 5 = .ok (.aload_n 0, 1) := by decide +kernel
theorem dX12_rivalTwos_6 : decode cX12_rivalTwos 6 = .ok (.getfield 87, 3) := by decide +kernel
theorem dX12_rivalTwos_9 : decode cX12_rivalTwos 9 = .ok (.if_icmp .ge 62, 3) := by decide +kernel
theorem dX12_rivalTwos_12 : decode cX12_rivalTwos 12 = .ok (.iload_n 3, 1) := by decide +kernel
theorem dX12_rivalTwos_13 : decode cX12_rivalTwos 13 = .ok (.iconst 1, 1) := by decide +kernel
theorem dX12_rivalTwos_14 : decode cX12_rivalTwos 14 = .ok (.iadd, 1) := by decide +kernel
theorem dX12_rivalTwos_15 : decode cX12_rivalTwos 15 = .ok (.istore 4, 2) := by decide +kernel
theorem dX12_rivalTwos_17 : decode cX12_rivalTwos 17 = .ok (.iload 4, 2) := by decide +kernel
theorem dX12_rivalTwos_19 : decode cX12_rivalTwos 19 = .ok (.aload_n 0, 1) := by decide +kernel
theorem dX12_rivalTwos_20 : decode cX12_rivalTwos 20 = .ok (.getfield 87, 3) := by decide +kernel
theorem dX12_rivalTwos_23 : decode cX12_rivalTwos 23 = .ok (.if_icmp .ge 42, 3) := by decide +kernel
theorem dX12_rivalTwos_26 : decode cX12_rivalTwos 26 = .ok (.iload_n 2, 1) := by decide +kernel
theorem dX12_rivalTwos_27 : decode cX12_rivalTwos 27 = .ok (.aload_n 0, 1) := by decide +kernel
theorem dX12_rivalTwos_28 : decode cX12_rivalTwos 28 = .ok (.iload_n 3, 1) := by decide +kernel
theorem dX12_rivalTwos_29 : decode cX12_rivalTwos 29 = .ok (.iload_n 1, 1) := by decide +kernel
theorem dX12_rivalTwos_30 : decode cX12_rivalTwos 30 = .ok (.invokevirtual 109, 3) := by decide +kernel
theorem dX12_rivalTwos_33 : decode cX12_rivalTwos 33 = .ok (.ifCond .le 23, 3) := by decide +kernel
theorem dX12_rivalTwos_36 : decode cX12_rivalTwos 36 = .ok (.aload_n 0, 1) := by decide +kernel
theorem dX12_rivalTwos_37 : decode cX12_rivalTwos 37 = .ok (.iload_n 3, 1) := by decide +kernel
theorem dX12_rivalTwos_38 : decode cX12_rivalTwos 38 = .ok (.iload_n 1, 1) := by decide +kernel
theorem dX12_rivalTwos_39 : decode cX12_rivalTwos 39 = .ok (.invokevirtual 109, 3) := by decide +kernel
theorem dX12_rivalTwos_42 : decode cX12_rivalTwos 42 = .ok (.aload_n 0, 1) := by decide +kernel
theorem dX12_rivalTwos_43 : decode cX12_rivalTwos 43 = .ok (.iload 4, 2) := by decide +kernel
theorem dX12_rivalTwos_45 : decode cX12_rivalTwos 45 = .ok (.iload_n 1, 1) := by decide +kernel
theorem dX12_rivalTwos_46 : decode cX12_rivalTwos 46 = .ok (.invokevirtual 109, 3) := by decide +kernel
theorem dX12_rivalTwos_49 : decode cX12_rivalTwos 49 = .ok (.if_icmp .ne 7, 3) := by decide +kernel
theorem dX12_rivalTwos_52 : decode cX12_rivalTwos 52 = .ok (.iconst 1, 1) := by decide +kernel
theorem dX12_rivalTwos_53 : decode cX12_rivalTwos 53 = .ok (.goto 4, 3) := by decide +kernel
theorem dX12_rivalTwos_56 : decode cX12_rivalTwos 56 = .ok (.iconst 0, 1) := by decide +kernel
theorem dX12_rivalTwos_57 : decode cX12_rivalTwos 57 = .ok (.iadd, 1) := by decide +kernel
theorem dX12_rivalTwos_58 : decode cX12_rivalTwos 58 = .ok (.istore_n 2, 1) := by decide +kernel
theorem dX12_rivalTwos_59 : decode cX12_rivalTwos 59 = .ok (.iinc 4 1, 3) := by decide +kernel
theorem dX12_rivalTwos_62 : decode cX12_rivalTwos 62 = .ok (.goto (-45), 3) := by decide +kernel
theorem dX12_rivalTwos_65 : decode cX12_rivalTwos 65 = .ok (.iinc 3 1, 3) := by decide +kernel
theorem dX12_rivalTwos_68 : decode cX12_rivalTwos 68 = .ok (.goto (-64), 3) := by decide +kernel
theorem dX12_rivalTwos_71 : decode cX12_rivalTwos 71 = .ok (.iload_n 2, 1) := by decide +kernel
theorem dX12_rivalTwos_72 : decode cX12_rivalTwos 72 = .ok (.ireturn, 1) := by decide +kernel
theorem dX12_common_0 : decode cX12_common 0 = .ok (.aload_n 0, 1) := by decide +kernel
theorem dX12_common_1 : decode cX12_common 1 = .ok (.iconst 0, 1) := by decide +kernel
theorem dX12_common_2 : decode cX12_common 2 = .ok (.putfield 77, 3) := by decide +kernel
theorem dX12_common_5 : decode cX12_common 5 = .ok (.iload_n 1, 1) := by decide +kernel
theorem dX12_common_6 : decode cX12_common 6 = .ok (.invokestatic 90, 3) := by decide +kernel
theorem dX12_common_9 : decode cX12_common 9 = .ok (.ifCond .eq 15, 3) := by decide +kernel
theorem dX12_common_12 : decode cX12_common 12 = .ok (.iload_n 2, 1) := by decide +kernel
theorem dX12_common_13 : decode cX12_common 13 = .ok (.i2l, 1) := by decide +kernel
theorem dX12_common_14 : decode cX12_common 14 = .ok (.lconst 0, 1) := by decide +kernel
theorem dX12_common_15 : decode cX12_common 15 = .ok (.ldc2_w 261, 3) := by decide +kernel
theorem dX12_common_18 : decode cX12_common 18 = .ok (.invokestatic 83, 3) := by decide +kernel
theorem dX12_common_21 : decode cX12_common 21 = .ok (.ifCond .ne 5, 3) := by decide +kernel
theorem dX12_common_24 : decode cX12_common 24 = .ok (.iconst (-1), 1) := by decide +kernel
theorem dX12_common_25 : decode cX12_common 25 = .ok (.ireturn, 1) := by decide +kernel
theorem dX12_common_26 : decode cX12_common 26 = .ok (.aload_n 0, 1) := by decide +kernel
theorem dX12_common_27 : decode cX12_common 27 = .ok (.getfield 87, 3) := by decide +kernel
theorem dX12_common_30 : decode cX12_common 30 = .ok (.ifCond .ne 7, 3) := by decide +kernel
theorem dX12_common_33 : decode cX12_common 33 = .ok (.iconst 0, 1) := by decide +kernel
theorem dX12_common_34 : decode cX12_common 34 = .ok (.goto 6, 3) := by decide +kernel
theorem dX12_common_37 : decode cX12_common 37 = .ok (.sipush 4095, 3) := by decide +kernel
theorem dX12_common_40 : decode cX12_common 40 = .ok (.istore_n 3, 1) := by decide +kernel
theorem dX12_common_41 : decode cX12_common 41 = .ok (.iconst 0, 1) := by decide +kernel
theorem dX12_common_42 : decode cX12_common 42 = .ok (.istore 4, 2) := by decide +kernel
theorem dX12_common_44 : decode cX12_common 44 = .ok (.iconst 0, 1) := by decide +kernel
theorem dX12_common_45 : decode cX12_common 45 = .ok (.istore 5, 2) := by decide +kernel
theorem dX12_common_47 : decode cX12_common 47 = .ok (.iconst 0, 1) := by decide +kernel
theorem dX12_common_48 : decode cX12_common 48 = .ok (.istore 6, 2) := by decide +kernel
theorem dX12_common_50 : decode cX12_common 50 = .ok (.iload 6, 2) := by decide +kernel
theorem dX12_common_52 : decode cX12_common 52 = .ok (.aload_n 0, 1) := by decide +kernel
theorem dX12_common_53 : decode cX12_common 53 = .ok (.getfield 87, 3) := by decide +kernel
theorem dX12_common_56 : decode cX12_common 56 = .ok (.if_icmp .ge 44, 3) := by decide +kernel
theorem dX12_common_59 : decode cX12_common 59 = .ok (.aload_n 0, 1) := by decide +kernel
theorem dX12_common_60 : decode cX12_common 60 = .ok (.getfield 28, 3) := by decide +kernel
theorem dX12_common_63 : decode cX12_common 63 = .ok (.iconst 5, 1) := by decide +kernel
theorem dX12_common_64 : decode cX12_common 64 = .ok (.iload 6, 2) := by decide +kernel
theorem dX12_common_66 : decode cX12_common 66 = .ok (.imul, 1) := by decide +kernel
theorem dX12_common_67 : decode cX12_common 67 = .ok (.iload_n 1, 1) := by decide +kernel
theorem dX12_common_68 : decode cX12_common 68 = .ok (.iadd, 1) := by decide +kernel
theorem dX12_common_69 : decode cX12_common 69 = .ok (.iaload, 1) := by decide +kernel
theorem dX12_common_70 : decode cX12_common 70 = .ok (.istore 7, 2) := by decide +kernel
theorem dX12_common_72 : decode cX12_common 72 = .ok (.iload_n 3, 1) := by decide +kernel
theorem dX12_common_73 : decode cX12_common 73 = .ok (.iload 7, 2) := by decide +kernel
theorem dX12_common_75 : decode cX12_common 75 = .ok (.iand, 1) := by decide +kernel
theorem dX12_common_76 : decode cX12_common 76 = .ok (.istore_n 3, 1) := by decide +kernel
theorem dX12_common_77 : decode cX12_common 77 = .ok (.iload 5, 2) := by decide +kernel
theorem dX12_common_79 : decode cX12_common 79 = .ok (.iload 4, 2) := by decide +kernel
theorem dX12_common_81 : decode cX12_common 81 = .ok (.iload 7, 2) := by decide +kernel
theorem dX12_common_83 : decode cX12_common 83 = .ok (.iand, 1) := by decide +kernel
theorem dX12_common_84 : decode cX12_common 84 = .ok (.ior, 1) := by decide +kernel
theorem dX12_common_85 : decode cX12_common 85 = .ok (.istore 5, 2) := by decide +kernel
theorem dX12_common_87 : decode cX12_common 87 = .ok (.iload 4, 2) := by decide +kernel
theorem dX12_common_89 : decode cX12_common 89 = .ok (.iload 7, 2) := by decide +kernel
theorem dX12_common_91 : decode cX12_common 91 = .ok (.ior, 1) := by decide +kernel
theorem dX12_common_92 : decode cX12_common 92 = .ok (.istore 4, 2) := by decide +kernel
theorem dX12_common_94 : decode cX12_common 94 = .ok (.iinc 6 1, 3) := by decide +kernel
theorem dX12_common_97 : decode cX12_common 97 = .ok (.goto (-47), 3) := by decide +kernel
theorem dX12_common_100 : decode cX12_common 100 = .ok (.iload_n 2, 1) := by decide +kernel
theorem dX12_common_101 : decode cX12_common 101 = .ok (.ifCond .ne 7, 3) := by decide +kernel
theorem dX12_common_104 : decode cX12_common 104 = .ok (.iload_n 3, 1) := by decide +kernel
theorem dX12_common_105 : decode cX12_common 105 = .ok (.goto 42, 3) := by decide +kernel
theorem dX12_common_108 : decode cX12_common 108 = .ok (.iload_n 2, 1) := by decide +kernel
theorem dX12_common_109 : decode cX12_common 109 = .ok (.iconst 1, 1) := by decide +kernel
theorem dX12_common_110 : decode cX12_common 110 = .ok (.if_icmp .ne 13, 3) := by decide +kernel
theorem dX12_common_113 : decode cX12_common 113 = .ok (.iload 4, 2) := by decide +kernel
theorem dX12_common_115 : decode cX12_common 115 = .ok (.iload 5, 2) := by decide +kernel
theorem dX12_common_117 : decode cX12_common 117 = .ok (.iconst (-1), 1) := by decide +kernel
theorem dX12_common_118 : decode cX12_common 118 = .ok (.ixor, 1) := by decide +kernel
theorem dX12_common_119 : decode cX12_common 119 = .ok (.iand, 1) := by decide +kernel
theorem dX12_common_120 : decode cX12_common 120 = .ok (.goto 27, 3) := by decide +kernel
theorem dX12_common_123 : decode cX12_common 123 = .ok (.iload_n 2, 1) := by decide +kernel
theorem dX12_common_124 : decode cX12_common 124 = .ok (.iconst 2, 1) := by decide +kernel
theorem dX12_common_125 : decode cX12_common 125 = .ok (.if_icmp .ne 17, 3) := by decide +kernel
theorem dX12_common_128 : decode cX12_common 128 = .ok (.aload_n 0, 1) := by decide +kernel
theorem dX12_common_129 : decode cX12_common 129 = .ok (.getfield 7, 3) := by decide +kernel
theorem dX12_common_132 : decode cX12_common 132 = .ok (.iload_n 1, 1) := by decide +kernel
theorem dX12_common_133 : decode cX12_common 133 = .ok (.iaload, 1) := by decide +kernel
theorem dX12_common_134 : decode cX12_common 134 = .ok (.iload 4, 2) := by decide +kernel
theorem dX12_common_136 : decode cX12_common 136 = .ok (.iconst (-1), 1) := by decide +kernel
theorem dX12_common_137 : decode cX12_common 137 = .ok (.ixor, 1) := by decide +kernel
theorem dX12_common_138 : decode cX12_common 138 = .ok (.iand, 1) := by decide +kernel
theorem dX12_common_139 : decode cX12_common 139 = .ok (.goto 8, 3) := by decide +kernel
theorem dX12_common_142 : decode cX12_common 142 = .ok (.aload_n 0, 1) := by decide +kernel
theorem dX12_common_143 : decode cX12_common 143 = .ok (.iload_n 1, 1) := by decide +kernel
theorem dX12_common_144 : decode cX12_common 144 = .ok (.invokevirtual 263, 3) := by decide +kernel
theorem dX12_common_147 : decode cX12_common 147 = .ok (.ireturn, 1) := by decide +kernel
theorem dX12_leastOf_0 : decode cX12_leastOf 0 = .ok (.iload_n 0, 1) := by decide +kernel
theorem dX12_leastOf_1 : decode cX12_leastOf 1 = .ok (.ifCond .ne 9, 3) := by decide +kernel
theorem dX12_leastOf_4 : decode cX12_leastOf 4 = .ok (.ldc2_w 266, 3) := by decide +kernel
theorem dX12_leastOf_7 : decode cX12_leastOf 7 = .ok (.goto 17, 3) := by decide +kernel
theorem dX12_leastOf_10 : decode cX12_leastOf 10 = .ok (.iload_n 0, 1) := by decide +kernel
theorem dX12_leastOf_11 : decode cX12_leastOf 11 = .ok (.iconst 1, 1) := by decide +kernel
theorem dX12_leastOf_12 : decode cX12_leastOf 12 = .ok (.if_icmp .ne 9, 3) := by decide +kernel
theorem dX12_leastOf_15 : decode cX12_leastOf 15 = .ok (.ldc2_w 268, 3) := by decide +kernel
theorem dX12_leastOf_18 : decode cX12_leastOf 18 = .ok (.goto 6, 3) := by decide +kernel
theorem dX12_leastOf_21 : decode cX12_leastOf 21 = .ok (.ldc2_w 270, 3) := by decide +kernel
theorem dX12_leastOf_24 : decode cX12_leastOf 24 = .ok (.lreturn, 1) := by decide +kernel
theorem dX12_isSkipped_0 : decode cX12_isSkipped 0 = .ok (.aload_n 0, 1) := by decide +kernel
theorem dX12_isSkipped_1 : decode cX12_isSkipped 1 = .ok (.getfield 46, 3) := by decide +kernel
theorem dX12_isSkipped_4 : decode cX12_isSkipped 4 = .ok (.bipush 100, 2) := by decide +kernel
theorem dX12_isSkipped_6 : decode cX12_isSkipped 6 = .ok (.iload_n 1, 1) := by decide +kernel
theorem dX12_isSkipped_7 : decode cX12_isSkipped 7 = .ok (.imul, 1) := by decide +kernel
theorem dX12_isSkipped_8 : decode cX12_isSkipped 8 = .ok (.iload_n 2, 1) := by decide +kernel
theorem dX12_isSkipped_9 : decode cX12_isSkipped 9 = .ok (.iadd, 1) := by decide +kernel
theorem dX12_isSkipped_10 : decode cX12_isSkipped 10 = .ok (.laload, 1) := by decide +kernel
theorem dX12_isSkipped_11 : decode cX12_isSkipped 11 = .ok (.aload_n 0, 1) := by decide +kernel
theorem dX12_isSkipped_12 : decode cX12_isSkipped 12 = .ok (.getfield 40, 3) := by decide +kernel
theorem dX12_isSkipped_15 : decode cX12_isSkipped 15 = .ok (.iload_n 1, 1) := by decide +kernel
theorem dX12_isSkipped_16 : decode cX12_isSkipped 16 = .ok (.iaload, 1) := by decide +kernel
theorem dX12_isSkipped_17 : decode cX12_isSkipped 17 = .ok (.invokestatic 272, 3) := by decide +kernel
theorem dX12_isSkipped_20 : decode cX12_isSkipped 20 = .ok (.lcmp, 1) := by decide +kernel
theorem dX12_isSkipped_21 : decode cX12_isSkipped 21 = .ok (.ifCond .ne 7, 3) := by decide +kernel
theorem dX12_isSkipped_24 : decode cX12_isSkipped 24 = .ok (.iconst 1, 1) := by decide +kernel
theorem dX12_isSkipped_25 : decode cX12_isSkipped 25 = .ok (.goto 4, 3) := by decide +kernel
theorem dX12_isSkipped_28 : decode cX12_isSkipped 28 = .ok (.iconst 0, 1) := by decide +kernel
theorem dX12_isSkipped_29 : decode cX12_isSkipped 29 = .ok (.ireturn, 1) := by decide +kernel
theorem dX12_isRow_0 : decode cX12_isRow 0 = .ok (.iconst 1, 1) := by decide +kernel
theorem dX12_isRow_1 : decode cX12_isRow 1 = .ok (.istore_n 3, 1) := by decide +kernel
theorem dX12_isRow_2 : decode cX12_isRow 2 = .ok (.iconst 0, 1) := by decide +kernel
theorem dX12_isRow_3 : decode cX12_isRow 3 = .ok (.istore 4, 2) := by decide +kernel
theorem dX12_isRow_5 : decode cX12_isRow 5 = .ok (.iload 4, 2) := by decide +kernel
theorem dX12_isRow_7 : decode cX12_isRow 7 = .ok (.aload_n 0, 1) := by decide +kernel
theorem dX12_isRow_8 : decode cX12_isRow 8 = .ok (.getfield 43, 3) := by decide +kernel
theorem dX12_isRow_11 : decode cX12_isRow 11 = .ok (.iload_n 1, 1) := by decide +kernel
theorem dX12_isRow_12 : decode cX12_isRow 12 = .ok (.iaload, 1) := by decide +kernel
theorem dX12_isRow_13 : decode cX12_isRow 13 = .ok (.if_icmp .ge 80, 3) := by decide +kernel
theorem dX12_isRow_16 : decode cX12_isRow 16 = .ok (.iload_n 3, 1) := by decide +kernel
theorem dX12_isRow_17 : decode cX12_isRow 17 = .ok (.ifCond .eq 76, 3) := by decide +kernel
theorem dX12_isRow_20 : decode cX12_isRow 20 = .ok (.aload_n 0, 1) := by decide +kernel
theorem dX12_isRow_21 : decode cX12_isRow 21 = .ok (.getfield 25, 3) := by decide +kernel
theorem dX12_isRow_24 : decode cX12_isRow 24 = .ok (.iload_n 2, 1) := by decide +kernel
theorem dX12_isRow_25 : decode cX12_isRow 25 = .ok (.iaload, 1) := by decide +kernel
theorem dX12_isRow_26 : decode cX12_isRow 26 = .ok (.bipush 9, 2) := by decide +kernel
theorem dX12_isRow_28 : decode cX12_isRow 28 = .ok (.if_icmp .ne 7, 3) := by decide +kernel
theorem dX12_isRow_31 : decode cX12_isRow 31 = .ok (.iconst 0, 1) := by decide +kernel
theorem dX12_isRow_32 : decode cX12_isRow 32 = .ok (.goto 14, 3) := by decide +kernel
theorem dX12_isRow_35 : decode cX12_isRow 35 = .ok (.aload_n 0, 1) := by decide +kernel
theorem dX12_isRow_36 : decode cX12_isRow 36 = .ok (.iload_n 2, 1) := by decide +kernel
theorem dX12_isRow_37 : decode cX12_isRow 37 = .ok (.aload_n 0, 1) := by decide +kernel
theorem dX12_isRow_38 : decode cX12_isRow 38 = .ok (.getfield 25, 3) := by decide +kernel
theorem dX12_isRow_41 : decode cX12_isRow 41 = .ok (.iload_n 2, 1) := by decide +kernel
theorem dX12_isRow_42 : decode cX12_isRow 42 = .ok (.iaload, 1) := by decide +kernel
theorem dX12_isRow_43 : decode cX12_isRow 43 = .ok (.invokevirtual 109, 3) := by decide +kernel
theorem dX12_isRow_46 : decode cX12_isRow 46 = .ok (.istore 5, 2) := by decide +kernel
theorem dX12_isRow_48 : decode cX12_isRow 48 = .ok (.aload_n 0, 1) := by decide +kernel
theorem dX12_isRow_49 : decode cX12_isRow 49 = .ok (.iload_n 1, 1) := by decide +kernel
theorem dX12_isRow_50 : decode cX12_isRow 50 = .ok (.iload 4, 2) := by decide +kernel
theorem dX12_isRow_52 : decode cX12_isRow 52 = .ok (.invokevirtual 276, 3) := by decide +kernel
theorem dX12_isRow_55 : decode cX12_isRow 55 = .ok (.ifCond .ne 22, 3) := by decide +kernel
theorem dX12_isRow_58 : decode cX12_isRow 58 = .ok (.aload_n 0, 1) := by decide +kernel
theorem dX12_isRow_59 : decode cX12_isRow 59 = .ok (.getfield 46, 3) := by decide +kernel
theorem dX12_isRow_62 : decode cX12_isRow 62 = .ok (.bipush 100, 2) := by decide +kernel
theorem dX12_isRow_64 : decode cX12_isRow 64 = .ok (.iload_n 1, 1) := by decide +kernel
theorem dX12_isRow_65 : decode cX12_isRow 65 = .ok (.imul, 1) := by decide +kernel
theorem dX12_isRow_66 : decode cX12_isRow 66 = .ok (.iload 4, 2) := by decide +kernel
theorem dX12_isRow_68 : decode cX12_isRow 68 = .ok (.iadd, 1) := by decide +kernel
theorem dX12_isRow_69 : decode cX12_isRow 69 = .ok (.laload, 1) := by decide +kernel
theorem dX12_isRow_70 : decode cX12_isRow 70 = .ok (.iload 5, 2) := by decide +kernel
theorem dX12_isRow_72 : decode cX12_isRow 72 = .ok (.i2l, 1) := by decide +kernel
theorem dX12_isRow_73 : decode cX12_isRow 73 = .ok (.lcmp, 1) := by decide +kernel
theorem dX12_isRow_74 : decode cX12_isRow 74 = .ok (.ifCond .ne 7, 3) := by decide +kernel
theorem dX12_isRow_77 : decode cX12_isRow 77 = .ok (.iconst 1, 1) := by decide +kernel
theorem dX12_isRow_78 : decode cX12_isRow 78 = .ok (.goto 4, 3) := by decide +kernel
theorem dX12_isRow_81 : decode cX12_isRow 81 = .ok (.iconst 0, 1) := by decide +kernel
theorem dX12_isRow_82 : decode cX12_isRow 82 = .ok (.istore_n 3, 1) := by decide +kernel
theorem dX12_isRow_83 : decode cX12_isRow 83 = .ok (.aload_n 0, 1) := by decide +kernel
theorem dX12_isRow_84 : decode cX12_isRow 84 = .ok (.invokevirtual 132, 3) := by decide +kernel
theorem dX12_isRow_87 : decode cX12_isRow 87 = .ok (.iinc 4 1, 3) := by decide +kernel
theorem dX12_isRow_90 : decode cX12_isRow 90 = .ok (.goto (-85), 3) := by decide +kernel
theorem dX12_isRow_93 : decode cX12_isRow 93 = .ok (.aload_n 0, 1) := by decide +kernel
theorem dX12_isRow_94 : decode cX12_isRow 94 = .ok (.invokevirtual 199, 3) := by decide +kernel
theorem dX12_isRow_97 : decode cX12_isRow 97 = .ok (.iload_n 3, 1) := by decide +kernel
theorem dX12_isRow_98 : decode cX12_isRow 98 = .ok (.ireturn, 1) := by decide +kernel
theorem dX12_whatIs_0 : decode cX12_whatIs 0 = .ok (.aload_n 0, 1) := by decide +kernel
theorem dX12_whatIs_1 : decode cX12_whatIs 1 = .ok (.iconst 0, 1) := by decide +kernel
theorem dX12_whatIs_2 : decode cX12_whatIs 2 = .ok (.putfield 77, 3) := by decide +kernel
theorem dX12_whatIs_5 : decode cX12_whatIs 5 = .ok (.aload_n 0, 1) := by decide +kernel
theorem dX12_whatIs_6 : decode cX12_whatIs 6 = .ok (.iload_n 2, 1) := by decide +kernel
theorem dX12_whatIs_7 : decode cX12_whatIs 7 = .ok (.invokevirtual 181, 3) := by decide +kernel
theorem dX12_whatIs_10 : decode cX12_whatIs 10 = .ok (.ifCond .eq 21, 3) := by decide +kernel
theorem dX12_whatIs_13 : decode cX12_whatIs 13 = .ok (.iload_n 3, 1) := by decide +kernel
theorem dX12_whatIs_14 : decode cX12_whatIs 14 = .ok (.i2l, 1) := by decide +kernel
theorem dX12_whatIs_15 : decode cX12_whatIs 15 = .ok (.lconst 0, 1) := by decide +kernel
theorem dX12_whatIs_16 : decode cX12_whatIs 16 = .ok (.lconst 1, 1) := by decide +kernel
theorem dX12_whatIs_17 : decode cX12_whatIs 17 = .ok (.invokestatic 83, 3) := by decide +kernel
theorem dX12_whatIs_20 : decode cX12_whatIs 20 = .ok (.ifCond .eq 11, 3) := by decide +kernel
theorem dX12_whatIs_23 : decode cX12_whatIs 23 = .ok (.aload_n 0, 1) := by decide +kernel
theorem dX12_whatIs_24 : decode cX12_whatIs 24 = .ok (.iload_n 1, 1) := by decide +kernel
theorem dX12_whatIs_25 : decode cX12_whatIs 25 = .ok (.invokevirtual 187, 3) := by decide +kernel
theorem dX12_whatIs_28 : decode cX12_whatIs 28 = .ok (.goto 4, 3) := by decide +kernel
theorem dX12_whatIs_31 : decode cX12_whatIs 31 = .ok (.iconst (-1), 1) := by decide +kernel
theorem dX12_whatIs_32 : decode cX12_whatIs 32 = .ok (.istore 4, 2) := by decide +kernel
theorem dX12_whatIs_34 : decode cX12_whatIs 34 = .ok (.iload 4, 2) := by decide +kernel
theorem dX12_whatIs_36 : decode cX12_whatIs 36 = .ok (.ifCond .ge 6, 3) := by decide +kernel
theorem dX12_whatIs_39 : decode cX12_whatIs 39 = .ok (.iload 4, 2) := by decide +kernel
theorem dX12_whatIs_41 : decode cX12_whatIs 41 = .ok (.ireturn, 1) := by decide +kernel
theorem dX12_whatIs_42 : decode cX12_whatIs 42 = .ok (.iconst 0, 1) := by decide +kernel
theorem dX12_whatIs_43 : decode cX12_whatIs 43 = .ok (.istore 5, 2) := by decide +kernel
theorem dX12_whatIs_45 : decode cX12_whatIs 45 = .ok (.aload_n 0, 1) := by decide +kernel
theorem dX12_whatIs_46 : decode cX12_whatIs 46 = .ok (.invokevirtual 193, 3) := by decide +kernel
theorem dX12_whatIs_49 : decode cX12_whatIs 49 = .ok (.iconst 0, 1) := by decide +kernel
theorem dX12_whatIs_50 : decode cX12_whatIs 50 = .ok (.istore 6, 2) := by decide +kernel
theorem dX12_whatIs_52 : decode cX12_whatIs 52 = .ok (.iload 6, 2) := by decide +kernel
theorem dX12_whatIs_54 : decode cX12_whatIs 54 = .ok (.iload_n 3, 1) := by decide +kernel
theorem dX12_whatIs_55 : decode cX12_whatIs 55 = .ok (.ifCond .ne 8, 3) := by decide +kernel
theorem dX12_whatIs_58 : decode cX12_whatIs 58 = .ok (.bipush 8, 2) := by decide +kernel
theorem dX12_whatIs_60 : decode cX12_whatIs 60 = .ok (.goto 5, 3) := by decide +kernel
theorem dX12_whatIs_63 : decode cX12_whatIs 63 = .ok (.bipush 10, 2) := by decide +kernel
theorem dX12_whatIs_65 : decode cX12_whatIs 65 = .ok (.if_icmp .ge 74, 3) := by decide +kernel
theorem dX12_whatIs_68 : decode cX12_whatIs 68 = .ok (.aload_n 0, 1) := by decide +kernel
theorem dX12_whatIs_69 : decode cX12_whatIs 69 = .ok (.getfield 19, 3) := by decide +kernel
theorem dX12_whatIs_72 : decode cX12_whatIs 72 = .ok (.iload_n 2, 1) := by decide +kernel
theorem dX12_whatIs_73 : decode cX12_whatIs 73 = .ok (.iload_n 3, 1) := by decide +kernel
theorem dX12_whatIs_74 : decode cX12_whatIs 74 = .ok (.ifCond .ne 8, 3) := by decide +kernel
theorem dX12_whatIs_77 : decode cX12_whatIs 77 = .ok (.iload 6, 2) := by decide +kernel
theorem dX12_whatIs_79 : decode cX12_whatIs 79 = .ok (.goto 9, 3) := by decide +kernel
theorem dX12_whatIs_82 : decode cX12_whatIs 82 = .ok (.aload_n 0, 1) := by decide +kernel
theorem dX12_whatIs_83 : decode cX12_whatIs 83 = .ok (.getfield 19, 3) := by decide +kernel
theorem dX12_whatIs_86 : decode cX12_whatIs 86 = .ok (.iload_n 2, 1) := by decide +kernel
theorem dX12_whatIs_87 : decode cX12_whatIs 87 = .ok (.iaload, 1) := by decide +kernel
theorem dX12_whatIs_88 : decode cX12_whatIs 88 = .ok (.iastore, 1) := by decide +kernel
theorem dX12_whatIs_89 : decode cX12_whatIs 89 = .ok (.aload_n 0, 1) := by decide +kernel
theorem dX12_whatIs_90 : decode cX12_whatIs 90 = .ok (.getfield 22, 3) := by decide +kernel
theorem dX12_whatIs_93 : decode cX12_whatIs 93 = .ok (.iload_n 2, 1) := by decide +kernel
theorem dX12_whatIs_94 : decode cX12_whatIs 94 = .ok (.iload_n 3, 1) := by decide +kernel
theorem dX12_whatIs_95 : decode cX12_whatIs 95 = .ok (.iconst 1, 1) := by decide +kernel
theorem dX12_whatIs_96 : decode cX12_whatIs 96 = .ok (.if_icmp .ne 8, 3) := by decide +kernel
theorem dX12_whatIs_99 : decode cX12_whatIs 99 = .ok (.iload 6, 2) := by decide +kernel
theorem dX12_whatIs_101 : decode cX12_whatIs 101 = .ok (.goto 9, 3) := by decide +kernel
theorem dX12_whatIs_104 : decode cX12_whatIs 104 = .ok (.aload_n 0, 1) := by decide +kernel
theorem dX12_whatIs_105 : decode cX12_whatIs 105 = .ok (.getfield 22, 3) := by decide +kernel
theorem dX12_whatIs_108 : decode cX12_whatIs 108 = .ok (.iload_n 2, 1) := by decide +kernel
theorem dX12_whatIs_109 : decode cX12_whatIs 109 = .ok (.iaload, 1) := by decide +kernel
theorem dX12_whatIs_110 : decode cX12_whatIs 110 = .ok (.iastore, 1) := by decide +kernel
theorem dX12_whatIs_111 : decode cX12_whatIs 111 = .ok (.iload 5, 2) := by decide +kernel
theorem dX12_whatIs_113 : decode cX12_whatIs 113 = .ok (.aload_n 0, 1) := by decide +kernel
theorem dX12_whatIs_114 : decode cX12_whatIs 114 = .ok (.iload_n 1, 1) := by decide +kernel
theorem dX12_whatIs_115 : decode cX12_whatIs 115 = .ok (.iload_n 2, 1) := by decide +kernel
theorem dX12_whatIs_116 : decode cX12_whatIs 116 = .ok (.invokevirtual 279, 3) := by decide +kernel
theorem dX12_whatIs_119 : decode cX12_whatIs 119 = .ok (.ifCond .eq 10, 3) := by decide +kernel
theorem dX12_whatIs_122 : decode cX12_whatIs 122 = .ok (.iconst 1, 1) := by decide +kernel
theorem dX12_whatIs_123 : decode cX12_whatIs 123 = .ok (.iload 6, 2) := by decide +kernel
theorem dX12_whatIs_125 : decode cX12_whatIs 125 = .ok (.ishl, 1) := by decide +kernel
theorem dX12_whatIs_126 : decode cX12_whatIs 126 = .ok (.goto 4, 3) := by decide +kernel
theorem dX12_whatIs_129 : decode cX12_whatIs 129 = .ok (.iconst 0, 1) := by decide +kernel
theorem dX12_whatIs_130 : decode cX12_whatIs 130 = .ok (.ior, 1) := by decide +kernel
theorem dX12_whatIs_131 : decode cX12_whatIs 131 = .ok (.istore 5, 2) := by decide +kernel
theorem dX12_whatIs_133 : decode cX12_whatIs 133 = .ok (.iinc 6 1, 3) := by decide +kernel
theorem dX12_whatIs_136 : decode cX12_whatIs 136 = .ok (.goto (-84), 3) := by decide +kernel
theorem dX12_whatIs_139 : decode cX12_whatIs 139 = .ok (.iload 5, 2) := by decide +kernel
theorem dX12_whatIs_141 : decode cX12_whatIs 141 = .ok (.ireturn, 1) := by decide +kernel
theorem dX12_isPast_0 : decode cX12_isPast 0 = .ok (.aload_n 0, 1) := by decide +kernel
theorem dX12_isPast_1 : decode cX12_isPast 1 = .ok (.getfield 43, 3) := by decide +kernel
theorem dX12_isPast_4 : decode cX12_isPast 4 = .ok (.iload_n 1, 1) := by decide +kernel
theorem dX12_isPast_5 : decode cX12_isPast 5 = .ok (.iaload, 1) := by decide +kernel
theorem dX12_isPast_6 : decode cX12_isPast 6 = .ok (.aload_n 0, 1) := by decide +kernel
theorem dX12_isPast_7 : decode cX12_isPast 7 = .ok (.getfield 87, 3) := by decide +kernel
theorem dX12_isPast_10 : decode cX12_isPast 10 = .ok (.if_icmp .gt 7, 3) := by decide +kernel
theorem dX12_isPast_13 : decode cX12_isPast 13 = .ok (.iconst 1, 1) := by decide +kernel
theorem dX12_isPast_14 : decode cX12_isPast 14 = .ok (.goto 4, 3) := by decide +kernel
theorem dX12_isPast_17 : decode cX12_isPast 17 = .ok (.iconst 0, 1) := by decide +kernel
theorem dX12_isPast_18 : decode cX12_isPast 18 = .ok (.istore 4, 2) := by decide +kernel
theorem dX12_isPast_20 : decode cX12_isPast 20 = .ok (.iconst 0, 1) := by decide +kernel
theorem dX12_isPast_21 : decode cX12_isPast 21 = .ok (.istore 5, 2) := by decide +kernel
theorem dX12_isPast_23 : decode cX12_isPast 23 = .ok (.iload 5, 2) := by decide +kernel
theorem dX12_isPast_25 : decode cX12_isPast 25 = .ok (.aload_n 0, 1) := by decide +kernel
theorem dX12_isPast_26 : decode cX12_isPast 26 = .ok (.getfield 43, 3) := by decide +kernel
theorem dX12_isPast_29 : decode cX12_isPast 29 = .ok (.iload_n 1, 1) := by decide +kernel
theorem dX12_isPast_30 : decode cX12_isPast 30 = .ok (.iaload, 1) := by decide +kernel
theorem dX12_isPast_31 : decode cX12_isPast 31 = .ok (.if_icmp .ge 66, 3) := by decide +kernel
theorem dX12_isPast_34 : decode cX12_isPast 34 = .ok (.iload 4, 2) := by decide +kernel
theorem dX12_isPast_36 : decode cX12_isPast 36 = .ok (.ifCond .eq 61, 3) := by decide +kernel
theorem dX12_isPast_39 : decode cX12_isPast 39 = .ok (.aload_n 0, 1) := by decide +kernel
theorem dX12_isPast_40 : decode cX12_isPast 40 = .ok (.iload_n 1, 1) := by decide +kernel
theorem dX12_isPast_41 : decode cX12_isPast 41 = .ok (.iload 5, 2) := by decide +kernel
theorem dX12_isPast_43 : decode cX12_isPast 43 = .ok (.invokevirtual 276, 3) := by decide +kernel
theorem dX12_isPast_46 : decode cX12_isPast 46 = .ok (.ifCond .ne 38, 3) := by decide +kernel
theorem dX12_isPast_49 : decode cX12_isPast 49 = .ok (.aload_n 0, 1) := by decide +kernel
theorem dX12_isPast_50 : decode cX12_isPast 50 = .ok (.getfield 46, 3) := by decide +kernel
theorem dX12_isPast_53 : decode cX12_isPast 53 = .ok (.bipush 100, 2) := by decide +kernel
theorem dX12_isPast_55 : decode cX12_isPast 55 = .ok (.iload_n 1, 1) := by decide +kernel
theorem dX12_isPast_56 : decode cX12_isPast 56 = .ok (.imul, 1) := by decide +kernel
theorem dX12_isPast_57 : decode cX12_isPast 57 = .ok (.iload 5, 2) := by decide +kernel
theorem dX12_isPast_59 : decode cX12_isPast 59 = .ok (.iadd, 1) := by decide +kernel
theorem dX12_isPast_60 : decode cX12_isPast 60 = .ok (.laload, 1) := by decide +kernel
theorem dX12_isPast_61 : decode cX12_isPast 61 = .ok (.aload_n 0, 1) := by decide +kernel
theorem dX12_isPast_62 : decode cX12_isPast 62 = .ok (.iload 5, 2) := by decide +kernel
theorem dX12_isPast_64 : decode cX12_isPast 64 = .ok (.aload_n 0, 1) := by decide +kernel
theorem dX12_isPast_65 : decode cX12_isPast 65 = .ok (.getfield 28, 3) := by decide +kernel
theorem dX12_isPast_68 : decode cX12_isPast 68 = .ok (.iconst 5, 1) := by decide +kernel
theorem dX12_isPast_69 : decode cX12_isPast 69 = .ok (.iload 5, 2) := by decide +kernel
theorem dX12_isPast_71 : decode cX12_isPast 71 = .ok (.imul, 1) := by decide +kernel
theorem dX12_isPast_72 : decode cX12_isPast 72 = .ok (.iload_n 2, 1) := by decide +kernel
theorem dX12_isPast_73 : decode cX12_isPast 73 = .ok (.iadd, 1) := by decide +kernel
theorem dX12_isPast_74 : decode cX12_isPast 74 = .ok (.iaload, 1) := by decide +kernel
theorem dX12_isPast_75 : decode cX12_isPast 75 = .ok (.iload_n 3, 1) := by decide +kernel
theorem dX12_isPast_76 : decode cX12_isPast 76 = .ok (.invokevirtual 98, 3) := by decide +kernel
theorem dX12_isPast_79 : decode cX12_isPast 79 = .ok (.i2l, 1) := by decide +kernel
theorem dX12_isPast_80 : decode cX12_isPast 80 = .ok (.lcmp, 1) := by decide +kernel
theorem dX12_isPast_81 : decode cX12_isPast 81 = .ok (.ifCond .ne 7, 3) := by decide +kernel
theorem dX12_isPast_84 : decode cX12_isPast 84 = .ok (.iconst 1, 1) := by decide +kernel
theorem dX12_isPast_85 : decode cX12_isPast 85 = .ok (.goto 4, 3) := by decide +kernel
theorem dX12_isPast_88 : decode cX12_isPast 88 = .ok (.iconst 0, 1) := by decide +kernel
theorem dX12_isPast_89 : decode cX12_isPast 89 = .ok (.istore 4, 2) := by decide +kernel
theorem dX12_isPast_91 : decode cX12_isPast 91 = .ok (.iinc 5 1, 3) := by decide +kernel
theorem dX12_isPast_94 : decode cX12_isPast 94 = .ok (.goto (-71), 3) := by decide +kernel
theorem dX12_isPast_97 : decode cX12_isPast 97 = .ok (.iload 4, 2) := by decide +kernel
theorem dX12_isPast_99 : decode cX12_isPast 99 = .ok (.ireturn, 1) := by decide +kernel
theorem dX12_whichPast_0 : decode cX12_whichPast 0 = .ok (.aload_n 0, 1) := by decide +kernel
theorem dX12_whichPast_1 : decode cX12_whichPast 1 = .ok (.iconst 0, 1) := by decide +kernel
theorem dX12_whichPast_2 : decode cX12_whichPast 2 = .ok (.putfield 77, 3) := by decide +kernel
theorem dX12_whichPast_5 : decode cX12_whichPast 5 = .ok (.iload_n 2, 1) := by decide +kernel
theorem dX12_whichPast_6 : decode cX12_whichPast 6 = .ok (.invokestatic 90, 3) := by decide +kernel
theorem dX12_whichPast_9 : decode cX12_whichPast 9 = .ok (.ifCond .eq 23, 3) := by decide +kernel
theorem dX12_whichPast_12 : decode cX12_whichPast 12 = .ok (.iload_n 3, 1) := by decide +kernel
theorem dX12_whichPast_13 : decode cX12_whichPast 13 = .ok (.i2l, 1) := by decide +kernel
theorem dX12_whichPast_14 : decode cX12_whichPast 14 = .ok (.lconst 0, 1) := by decide +kernel
theorem dX12_whichPast_15 : decode cX12_whichPast 15 = .ok (.ldc2_w 221, 3) := by decide +kernel
theorem dX12_whichPast_18 : decode cX12_whichPast 18 = .ok (.invokestatic 83, 3) := by decide +kernel
theorem dX12_whichPast_21 : decode cX12_whichPast 21 = .ok (.ifCond .eq 11, 3) := by decide +kernel
theorem dX12_whichPast_24 : decode cX12_whichPast 24 = .ok (.aload_n 0, 1) := by decide +kernel
theorem dX12_whichPast_25 : decode cX12_whichPast 25 = .ok (.iload_n 1, 1) := by decide +kernel
theorem dX12_whichPast_26 : decode cX12_whichPast 26 = .ok (.invokevirtual 187, 3) := by decide +kernel
theorem dX12_whichPast_29 : decode cX12_whichPast 29 = .ok (.goto 4, 3) := by decide +kernel
theorem dX12_whichPast_32 : decode cX12_whichPast 32 = .ok (.iconst (-1), 1) := by decide +kernel
theorem dX12_whichPast_33 : decode cX12_whichPast 33 = .ok (.istore 4, 2) := by decide +kernel
theorem dX12_whichPast_35 : decode cX12_whichPast 35 = .ok (.iload 4, 2) := by decide +kernel
theorem dX12_whichPast_37 : decode cX12_whichPast 37 = .ok (.ifCond .ge 6, 3) := by decide +kernel
theorem dX12_whichPast_40 : decode cX12_whichPast 40 = .ok (.iload 4, 2) := by decide +kernel
theorem dX12_whichPast_42 : decode cX12_whichPast 42 = .ok (.ireturn, 1) := by decide +kernel
theorem dX12_whichPast_43 : decode cX12_whichPast 43 = .ok (.iconst 0, 1) := by decide +kernel
theorem dX12_whichPast_44 : decode cX12_whichPast 44 = .ok (.istore 5, 2) := by decide +kernel
theorem dX12_whichPast_46 : decode cX12_whichPast 46 = .ok (.bipush (-4), 2) := by decide +kernel
theorem dX12_whichPast_48 : decode cX12_whichPast 48 = .ok (.istore 6, 2) := by decide +kernel
theorem dX12_whichPast_50 : decode cX12_whichPast 50 = .ok (.bipush (-4), 2) := by decide +kernel
theorem dX12_whichPast_52 : decode cX12_whichPast 52 = .ok (.istore 7, 2) := by decide +kernel
theorem dX12_whichPast_54 : decode cX12_whichPast 54 = .ok (.iconst 0, 1) := by decide +kernel
theorem dX12_whichPast_55 : decode cX12_whichPast 55 = .ok (.istore 8, 2) := by decide +kernel
theorem dX12_whichPast_57 : decode cX12_whichPast 57 = .ok (.iload 8, 2) := by decide +kernel
theorem dX12_whichPast_59 : decode cX12_whichPast 59 = .ok (.sipush 4096, 3) := by decide +kernel
theorem dX12_whichPast_62 : decode cX12_whichPast 62 = .ok (.if_icmp .ge 41, 3) := by decide +kernel
theorem dX12_whichPast_65 : decode cX12_whichPast 65 = .ok (.aload_n 0, 1) := by decide +kernel
theorem dX12_whichPast_66 : decode cX12_whichPast 66 = .ok (.iload_n 1, 1) := by decide +kernel
theorem dX12_whichPast_67 : decode cX12_whichPast 67 = .ok (.iload_n 2, 1) := by decide +kernel
theorem dX12_whichPast_68 : decode cX12_whichPast 68 = .ok (.iload 8, 2) := by decide +kernel
theorem dX12_whichPast_70 : decode cX12_whichPast 70 = .ok (.invokevirtual 282, 3) := by decide +kernel
theorem dX12_whichPast_73 : decode cX12_whichPast 73 = .ok (.ifCond .eq 24, 3) := by decide +kernel
theorem dX12_whichPast_76 : decode cX12_whichPast 76 = .ok (.iinc 5 1, 3) := by decide +kernel
theorem dX12_whichPast_79 : decode cX12_whichPast 79 = .ok (.iload 6, 2) := by decide +kernel
theorem dX12_whichPast_81 : decode cX12_whichPast 81 = .ok (.ifCond .ge 8, 3) := by decide +kernel
theorem dX12_whichPast_84 : decode cX12_whichPast 84 = .ok (.iload 8, 2) := by decide +kernel
theorem dX12_whichPast_86 : decode cX12_whichPast 86 = .ok (.goto 5, 3) := by decide +kernel
theorem dX12_whichPast_89 : decode cX12_whichPast 89 = .ok (.iload 6, 2) := by decide +kernel
theorem dX12_whichPast_91 : decode cX12_whichPast 91 = .ok (.istore 6, 2) := by decide +kernel
theorem dX12_whichPast_93 : decode cX12_whichPast 93 = .ok (.iload 8, 2) := by decide +kernel
theorem dX12_whichPast_95 : decode cX12_whichPast 95 = .ok (.istore 7, 2) := by decide +kernel
theorem dX12_whichPast_97 : decode cX12_whichPast 97 = .ok (.iinc 8 1, 3) := by decide +kernel
theorem dX12_whichPast_100 : decode cX12_whichPast 100 = .ok (.goto (-43), 3) := by decide +kernel
theorem dX12_whichPast_103 : decode cX12_whichPast 103 = .ok (.iload_n 3, 1) := by decide +kernel
theorem dX12_whichPast_104 : decode cX12_whichPast 104 = .ok (.ifCond .ne 8, 3) := by decide +kernel
theorem dX12_whichPast_107 : decode cX12_whichPast 107 = .ok (.iload 5, 2) := by decide +kernel
theorem dX12_whichPast_109 : decode cX12_whichPast 109 = .ok (.goto 15, 3) := by decide +kernel
theorem dX12_whichPast_112 : decode cX12_whichPast 112 = .ok (.iload_n 3, 1) := by decide +kernel
theorem dX12_whichPast_113 : decode cX12_whichPast 113 = .ok (.iconst 1, 1) := by decide +kernel
theorem dX12_whichPast_114 : decode cX12_whichPast 114 = .ok (.if_icmp .ne 8, 3) := by decide +kernel
theorem dX12_whichPast_117 : decode cX12_whichPast 117 = .ok (.iload 6, 2) := by decide +kernel
theorem dX12_whichPast_119 : decode cX12_whichPast 119 = .ok (.goto 5, 3) := by decide +kernel
theorem dX12_whichPast_122 : decode cX12_whichPast 122 = .ok (.iload 7, 2) := by decide +kernel
theorem dX12_whichPast_124 : decode cX12_whichPast 124 = .ok (.ireturn, 1) := by decide +kernel
theorem dX12_two_0 : decode cX12_two 0 = .ok (.aload_n 0, 1) := by decide +kernel
theorem dX12_two_1 : decode cX12_two 1 = .ok (.iconst 0, 1) := by decide +kernel
theorem dX12_two_2 : decode cX12_two 2 = .ok (.putfield 77, 3) := by decide +kernel
theorem dX12_two_5 : decode cX12_two 5 = .ok (.aload_n 0, 1) := by decide +kernel
theorem dX12_two_6 : decode cX12_two 6 = .ok (.iload_n 1, 1) := by decide +kernel
theorem dX12_two_7 : decode cX12_two 7 = .ok (.invokevirtual 181, 3) := by decide +kernel
theorem dX12_two_10 : decode cX12_two 10 = .ok (.ifCond .eq 36, 3) := by decide +kernel
theorem dX12_two_13 : decode cX12_two 13 = .ok (.aload_n 0, 1) := by decide +kernel
theorem dX12_two_14 : decode cX12_two 14 = .ok (.iload_n 2, 1) := by decide +kernel
theorem dX12_two_15 : decode cX12_two 15 = .ok (.invokevirtual 181, 3) := by decide +kernel
theorem dX12_two_18 : decode cX12_two 18 = .ok (.ifCond .eq 28, 3) := by decide +kernel
theorem dX12_two_21 : decode cX12_two 21 = .ok (.iload_n 1, 1) := by decide +kernel
theorem dX12_two_22 : decode cX12_two 22 = .ok (.iload_n 2, 1) := by decide +kernel
theorem dX12_two_23 : decode cX12_two 23 = .ok (.if_icmp .eq 23, 3) := by decide +kernel
theorem dX12_two_26 : decode cX12_two 26 = .ok (.iload_n 3, 1) := by decide +kernel
theorem dX12_two_27 : decode cX12_two 27 = .ok (.invokestatic 90, 3) := by decide +kernel
theorem dX12_two_30 : decode cX12_two 30 = .ok (.ifCond .eq 16, 3) := by decide +kernel
theorem dX12_two_33 : decode cX12_two 33 = .ok (.iload 4, 2) := by decide +kernel
theorem dX12_two_35 : decode cX12_two 35 = .ok (.i2l, 1) := by decide +kernel
theorem dX12_two_36 : decode cX12_two 36 = .ok (.lconst 1, 1) := by decide +kernel
theorem dX12_two_37 : decode cX12_two 37 = .ok (.ldc2_w 285, 3) := by decide +kernel
theorem dX12_two_40 : decode cX12_two 40 = .ok (.invokestatic 83, 3) := by decide +kernel
theorem dX12_two_43 : decode cX12_two 43 = .ok (.ifCond .ne 5, 3) := by decide +kernel
theorem dX12_two_46 : decode cX12_two 46 = .ok (.iconst (-1), 1) := by decide +kernel
theorem dX12_two_47 : decode cX12_two 47 = .ok (.ireturn, 1) := by decide +kernel
theorem dX12_two_48 : decode cX12_two 48 = .ok (.aload_n 0, 1) := by decide +kernel
theorem dX12_two_49 : decode cX12_two 49 = .ok (.invokevirtual 193, 3) := by decide +kernel
theorem dX12_two_52 : decode cX12_two 52 = .ok (.iconst 0, 1) := by decide +kernel
theorem dX12_two_53 : decode cX12_two 53 = .ok (.istore 5, 2) := by decide +kernel
theorem dX12_two_55 : decode cX12_two 55 = .ok (.iload 5, 2) := by decide +kernel
theorem dX12_two_57 : decode cX12_two 57 = .ok (.iconst 4, 1) := by decide +kernel
theorem dX12_two_58 : decode cX12_two 58 = .ok (.if_icmp .ge 107, 3) := by decide +kernel
theorem dX12_two_61 : decode cX12_two 61 = .ok (.aload_n 0, 1) := by decide +kernel
theorem dX12_two_62 : decode cX12_two 62 = .ok (.getfield 25, 3) := by decide +kernel
theorem dX12_two_65 : decode cX12_two 65 = .ok (.iload_n 1, 1) := by decide +kernel
theorem dX12_two_66 : decode cX12_two 66 = .ok (.iload 5, 2) := by decide +kernel
theorem dX12_two_68 : decode cX12_two 68 = .ok (.iconst 2, 1) := by decide +kernel
theorem dX12_two_69 : decode cX12_two 69 = .ok (.idiv, 1) := by decide +kernel
theorem dX12_two_70 : decode cX12_two 70 = .ok (.iconst 1, 1) := by decide +kernel
theorem dX12_two_71 : decode cX12_two 71 = .ok (.if_icmp .ne 7, 3) := by decide +kernel
theorem dX12_two_74 : decode cX12_two 74 = .ok (.iload_n 3, 1) := by decide +kernel
theorem dX12_two_75 : decode cX12_two 75 = .ok (.goto 9, 3) := by decide +kernel
theorem dX12_two_78 : decode cX12_two 78 = .ok (.aload_n 0, 1) := by decide +kernel
theorem dX12_two_79 : decode cX12_two 79 = .ok (.getfield 25, 3) := by decide +kernel
theorem dX12_two_82 : decode cX12_two 82 = .ok (.iload_n 1, 1) := by decide +kernel
theorem dX12_two_83 : decode cX12_two 83 = .ok (.iaload, 1) := by decide +kernel
theorem dX12_two_84 : decode cX12_two 84 = .ok (.iastore, 1) := by decide +kernel
theorem dX12_two_85 : decode cX12_two 85 = .ok (.aload_n 0, 1) := by decide +kernel
theorem dX12_two_86 : decode cX12_two 86 = .ok (.getfield 25, 3) := by decide +kernel
theorem dX12_two_89 : decode cX12_two 89 = .ok (.iload_n 2, 1) := by decide +kernel
theorem dX12_two_90 : decode cX12_two 90 = .ok (.iload 5, 2) := by decide +kernel
theorem dX12_two_92 : decode cX12_two 92 = .ok (.iconst 2, 1) := by decide +kernel
theorem dX12_two_93 : decode cX12_two 93 = .ok (.irem, 1) := by decide +kernel
theorem dX12_two_94 : decode cX12_two 94 = .ok (.iconst 1, 1) := by decide +kernel
theorem dX12_two_95 : decode cX12_two 95 = .ok (.if_icmp .ne 7, 3) := by decide +kernel
theorem dX12_two_98 : decode cX12_two 98 = .ok (.iload_n 3, 1) := by decide +kernel
theorem dX12_two_99 : decode cX12_two 99 = .ok (.goto 9, 3) := by decide +kernel
theorem dX12_two_102 : decode cX12_two 102 = .ok (.aload_n 0, 1) := by decide +kernel
theorem dX12_two_103 : decode cX12_two 103 = .ok (.getfield 25, 3) := by decide +kernel
theorem dX12_two_106 : decode cX12_two 106 = .ok (.iload_n 2, 1) := by decide +kernel
theorem dX12_two_107 : decode cX12_two 107 = .ok (.iaload, 1) := by decide +kernel
theorem dX12_two_108 : decode cX12_two 108 = .ok (.iastore, 1) := by decide +kernel
theorem dX12_two_109 : decode cX12_two 109 = .ok (.aload_n 0, 1) := by decide +kernel
theorem dX12_two_110 : decode cX12_two 110 = .ok (.iload 4, 2) := by decide +kernel
theorem dX12_two_112 : decode cX12_two 112 = .ok (.invokevirtual 174, 3) := by decide +kernel
theorem dX12_two_115 : decode cX12_two 115 = .ok (.aload_n 0, 1) := by decide +kernel
theorem dX12_two_116 : decode cX12_two 116 = .ok (.getfield 71, 3) := by decide +kernel
theorem dX12_two_119 : decode cX12_two 119 = .ok (.iconst 2, 1) := by decide +kernel
theorem dX12_two_120 : decode cX12_two 120 = .ok (.iload 5, 2) := by decide +kernel
theorem dX12_two_122 : decode cX12_two 122 = .ok (.imul, 1) := by decide +kernel
theorem dX12_two_123 : decode cX12_two 123 = .ok (.aload_n 0, 1) := by decide +kernel
theorem dX12_two_124 : decode cX12_two 124 = .ok (.iload_n 1, 1) := by decide +kernel
theorem dX12_two_125 : decode cX12_two 125 = .ok (.invokevirtual 238, 3) := by decide +kernel
theorem dX12_two_128 : decode cX12_two 128 = .ok (.iload 5, 2) := by decide +kernel
theorem dX12_two_130 : decode cX12_two 130 = .ok (.iconst 2, 1) := by decide +kernel
theorem dX12_two_131 : decode cX12_two 131 = .ok (.idiv, 1) := by decide +kernel
theorem dX12_two_132 : decode cX12_two 132 = .ok (.isub, 1) := by decide +kernel
theorem dX12_two_133 : decode cX12_two 133 = .ok (.iastore, 1) := by decide +kernel
theorem dX12_two_134 : decode cX12_two 134 = .ok (.aload_n 0, 1) := by decide +kernel
theorem dX12_two_135 : decode cX12_two 135 = .ok (.getfield 71, 3) := by decide +kernel
theorem dX12_two_138 : decode cX12_two 138 = .ok (.iconst 2, 1) := by decide +kernel
theorem dX12_two_139 : decode cX12_two 139 = .ok (.iload 5, 2) := by decide +kernel
theorem dX12_two_141 : decode cX12_two 141 = .ok (.imul, 1) := by decide +kernel
theorem dX12_two_142 : decode cX12_two 142 = .ok (.iconst 1, 1) := by decide +kernel
theorem dX12_two_143 : decode cX12_two 143 = .ok (.iadd, 1) := by decide +kernel
theorem dX12_two_144 : decode cX12_two 144 = .ok (.aload_n 0, 1) := by decide +kernel
theorem dX12_two_145 : decode cX12_two 145 = .ok (.iload_n 2, 1) := by decide +kernel
theorem dX12_two_146 : decode cX12_two 146 = .ok (.invokevirtual 238, 3) := by decide +kernel
theorem dX12_two_149 : decode cX12_two 149 = .ok (.iload 5, 2) := by decide +kernel
theorem dX12_two_151 : decode cX12_two 151 = .ok (.iconst 2, 1) := by decide +kernel
theorem dX12_two_152 : decode cX12_two 152 = .ok (.irem, 1) := by decide +kernel
theorem dX12_two_153 : decode cX12_two 153 = .ok (.isub, 1) := by decide +kernel
theorem dX12_two_154 : decode cX12_two 154 = .ok (.iastore, 1) := by decide +kernel
theorem dX12_two_155 : decode cX12_two 155 = .ok (.aload_n 0, 1) := by decide +kernel
theorem dX12_two_156 : decode cX12_two 156 = .ok (.invokevirtual 199, 3) := by decide +kernel
theorem dX12_two_159 : decode cX12_two 159 = .ok (.iinc 5 1, 3) := by decide +kernel
theorem dX12_two_162 : decode cX12_two 162 = .ok (.goto (-107), 3) := by decide +kernel
theorem dX12_two_165 : decode cX12_two 165 = .ok (.iconst 0, 1) := by decide +kernel
theorem dX12_two_166 : decode cX12_two 166 = .ok (.istore 5, 2) := by decide +kernel
theorem dX12_two_168 : decode cX12_two 168 = .ok (.iload 5, 2) := by decide +kernel
theorem dX12_two_170 : decode cX12_two 170 = .ok (.iconst 4, 1) := by decide +kernel
theorem dX12_two_171 : decode cX12_two 171 = .ok (.if_icmp .ge 98, 3) := by decide +kernel
theorem dX12_two_174 : decode cX12_two 174 = .ok (.iconst 2, 1) := by decide +kernel
theorem dX12_two_175 : decode cX12_two 175 = .ok (.iconst 1, 1) := by decide +kernel
theorem dX12_two_176 : decode cX12_two 176 = .ok (.iload 5, 2) := by decide +kernel
theorem dX12_two_178 : decode cX12_two 178 = .ok (.iconst 2, 1) := by decide +kernel
theorem dX12_two_179 : decode cX12_two 179 = .ok (.idiv, 1) := by decide +kernel
theorem dX12_two_180 : decode cX12_two 180 = .ok (.isub, 1) := by decide +kernel
theorem dX12_two_181 : decode cX12_two 181 = .ok (.imul, 1) := by decide +kernel
theorem dX12_two_182 : decode cX12_two 182 = .ok (.iload 5, 2) := by decide +kernel
theorem dX12_two_184 : decode cX12_two 184 = .ok (.iconst 2, 1) := by decide +kernel
theorem dX12_two_185 : decode cX12_two 185 = .ok (.irem, 1) := by decide +kernel
theorem dX12_two_186 : decode cX12_two 186 = .ok (.iadd, 1) := by decide +kernel
theorem dX12_two_187 : decode cX12_two 187 = .ok (.istore 6, 2) := by decide +kernel
theorem dX12_two_189 : decode cX12_two 189 = .ok (.iconst 2, 1) := by decide +kernel
theorem dX12_two_190 : decode cX12_two 190 = .ok (.iload 5, 2) := by decide +kernel
theorem dX12_two_192 : decode cX12_two 192 = .ok (.iconst 2, 1) := by decide +kernel
theorem dX12_two_193 : decode cX12_two 193 = .ok (.idiv, 1) := by decide +kernel
theorem dX12_two_194 : decode cX12_two 194 = .ok (.imul, 1) := by decide +kernel
theorem dX12_two_195 : decode cX12_two 195 = .ok (.iconst 1, 1) := by decide +kernel
theorem dX12_two_196 : decode cX12_two 196 = .ok (.iadd, 1) := by decide +kernel
theorem dX12_two_197 : decode cX12_two 197 = .ok (.iload 5, 2) := by decide +kernel
theorem dX12_two_199 : decode cX12_two 199 = .ok (.iconst 2, 1) := by decide +kernel
theorem dX12_two_200 : decode cX12_two 200 = .ok (.irem, 1) := by decide +kernel
theorem dX12_two_201 : decode cX12_two 201 = .ok (.isub, 1) := by decide +kernel
theorem dX12_two_202 : decode cX12_two 202 = .ok (.istore 7, 2) := by decide +kernel
theorem dX12_two_204 : decode cX12_two 204 = .ok (.aload_n 0, 1) := by decide +kernel
theorem dX12_two_205 : decode cX12_two 205 = .ok (.getfield 71, 3) := by decide +kernel
theorem dX12_two_208 : decode cX12_two 208 = .ok (.iconst 2, 1) := by decide +kernel
theorem dX12_two_209 : decode cX12_two 209 = .ok (.iload 5, 2) := by decide +kernel
theorem dX12_two_211 : decode cX12_two 211 = .ok (.imul, 1) := by decide +kernel
theorem dX12_two_212 : decode cX12_two 212 = .ok (.iaload, 1) := by decide +kernel
theorem dX12_two_213 : decode cX12_two 213 = .ok (.aload_n 0, 1) := by decide +kernel
theorem dX12_two_214 : decode cX12_two 214 = .ok (.getfield 71, 3) := by decide +kernel
theorem dX12_two_217 : decode cX12_two 217 = .ok (.iconst 2, 1) := by decide +kernel
theorem dX12_two_218 : decode cX12_two 218 = .ok (.iload 6, 2) := by decide +kernel
theorem dX12_two_220 : decode cX12_two 220 = .ok (.imul, 1) := by decide +kernel
theorem dX12_two_221 : decode cX12_two 221 = .ok (.iaload, 1) := by decide +kernel
theorem dX12_two_222 : decode cX12_two 222 = .ok (.if_icmp .lt 41, 3) := by decide +kernel
theorem dX12_two_225 : decode cX12_two 225 = .ok (.aload_n 0, 1) := by decide +kernel
theorem dX12_two_226 : decode cX12_two 226 = .ok (.getfield 71, 3) := by decide +kernel
theorem dX12_two_229 : decode cX12_two 229 = .ok (.iconst 2, 1) := by decide +kernel
theorem dX12_two_230 : decode cX12_two 230 = .ok (.iload 5, 2) := by decide +kernel
theorem dX12_two_232 : decode cX12_two 232 = .ok (.imul, 1) := by decide +kernel
theorem dX12_two_233 : decode cX12_two 233 = .ok (.iconst 1, 1) := by decide +kernel
theorem dX12_two_234 : decode cX12_two 234 = .ok (.iadd, 1) := by decide +kernel
theorem dX12_two_235 : decode cX12_two 235 = .ok (.iaload, 1) := by decide +kernel
theorem dX12_two_236 : decode cX12_two 236 = .ok (.aload_n 0, 1) := by decide +kernel
theorem dX12_two_237 : decode cX12_two 237 = .ok (.getfield 71, 3) := by decide +kernel
theorem dX12_two_240 : decode cX12_two 240 = .ok (.iconst 2, 1) := by decide +kernel
theorem dX12_two_241 : decode cX12_two 241 = .ok (.iload 7, 2) := by decide +kernel
theorem dX12_two_243 : decode cX12_two 243 = .ok (.imul, 1) := by decide +kernel
theorem dX12_two_244 : decode cX12_two 244 = .ok (.iconst 1, 1) := by decide +kernel
theorem dX12_two_245 : decode cX12_two 245 = .ok (.iadd, 1) := by decide +kernel
theorem dX12_two_246 : decode cX12_two 246 = .ok (.iaload, 1) := by decide +kernel
theorem dX12_two_247 : decode cX12_two 247 = .ok (.if_icmp .lt 16, 3) := by decide +kernel
theorem dX12_two_250 : decode cX12_two 250 = .ok (.bipush 10, 2) := by decide +kernel
theorem dX12_two_252 : decode cX12_two 252 = .ok (.iload 5, 2) := by decide +kernel
theorem dX12_two_254 : decode cX12_two 254 = .ok (.iconst 2, 1) := by decide +kernel
theorem dX12_two_255 : decode cX12_two 255 = .ok (.idiv, 1) := by decide +kernel
theorem dX12_two_256 : decode cX12_two 256 = .ok (.imul, 1) := by decide +kernel
theorem dX12_two_257 : decode cX12_two 257 = .ok (.iload 5, 2) := by decide +kernel
theorem dX12_two_259 : decode cX12_two 259 = .ok (.iconst 2, 1) := by decide +kernel
theorem dX12_two_260 : decode cX12_two 260 = .ok (.irem, 1) := by decide +kernel
theorem dX12_two_261 : decode cX12_two 261 = .ok (.iadd, 1) := by decide +kernel
theorem dX12_two_262 : decode cX12_two 262 = .ok (.ireturn, 1) := by decide +kernel
theorem dX12_two_263 : decode cX12_two 263 = .ok (.iinc 5 1, 3) := by decide +kernel
theorem dX12_two_266 : decode cX12_two 266 = .ok (.goto (-98), 3) := by decide +kernel
theorem dX12_two_269 : decode cX12_two 269 = .ok (.bipush (-4), 2) := by decide +kernel
theorem dX12_two_271 : decode cX12_two 271 = .ok (.ireturn, 1) := by decide +kernel
theorem dX12_divisor_0 : decode cX12_divisor 0 = .ok (.lload_n 0, 1) := by decide +kernel
theorem dX12_divisor_1 : decode cX12_divisor 1 = .ok (.lstore 4, 2) := by decide +kernel
theorem dX12_divisor_3 : decode cX12_divisor 3 = .ok (.lload_n 2, 1) := by decide +kernel
theorem dX12_divisor_4 : decode cX12_divisor 4 = .ok (.lstore 6, 2) := by decide +kernel
theorem dX12_divisor_6 : decode cX12_divisor 6 = .ok (.lload 6, 2) := by decide +kernel
theorem dX12_divisor_8 : decode cX12_divisor 8 = .ok (.lconst 0, 1) := by decide +kernel
theorem dX12_divisor_9 : decode cX12_divisor 9 = .ok (.lcmp, 1) := by decide +kernel
theorem dX12_divisor_10 : decode cX12_divisor 10 = .ok (.ifCond .eq 21, 3) := by decide +kernel
theorem dX12_divisor_13 : decode cX12_divisor 13 = .ok (.lload 4, 2) := by decide +kernel
theorem dX12_divisor_15 : decode cX12_divisor 15 = .ok (.lload 6, 2) := by decide +kernel
theorem dX12_divisor_17 : decode cX12_divisor 17 = .ok (.lrem, 1) := by decide +kernel
theorem dX12_divisor_18 : decode cX12_divisor 18 = .ok (.lstore 8, 2) := by decide +kernel
theorem dX12_divisor_20 : decode cX12_divisor 20 = .ok (.lload 6, 2) := by decide +kernel
theorem dX12_divisor_22 : decode cX12_divisor 22 = .ok (.lstore 4, 2) := by decide +kernel
theorem dX12_divisor_24 : decode cX12_divisor 24 = .ok (.lload 8, 2) := by decide +kernel
theorem dX12_divisor_26 : decode cX12_divisor 26 = .ok (.lstore 6, 2) := by decide +kernel
theorem dX12_divisor_28 : decode cX12_divisor 28 = .ok (.goto (-22), 3) := by decide +kernel
theorem dX12_divisor_31 : decode cX12_divisor 31 = .ok (.lload 4, 2) := by decide +kernel
theorem dX12_divisor_33 : decode cX12_divisor 33 = .ok (.lreturn, 1) := by decide +kernel
theorem dX12_partOf_0 : decode cX12_partOf 0 = .ok (.lload_n 0, 1) := by decide +kernel
theorem dX12_partOf_1 : decode cX12_partOf 1 = .ok (.lconst 0, 1) := by decide +kernel
theorem dX12_partOf_2 : decode cX12_partOf 2 = .ok (.lcmp, 1) := by decide +kernel
theorem dX12_partOf_3 : decode cX12_partOf 3 = .ok (.ifCond .ne 7, 3) := by decide +kernel
theorem dX12_partOf_6 : decode cX12_partOf 6 = .ok (.iload 4, 2) := by decide +kernel
theorem dX12_partOf_8 : decode cX12_partOf 8 = .ok (.i2l, 1) := by decide +kernel
theorem dX12_partOf_9 : decode cX12_partOf 9 = .ok (.lreturn, 1) := by decide +kernel
theorem dX12_partOf_10 : decode cX12_partOf 10 = .ok (.lload_n 0, 1) := by decide +kernel
theorem dX12_partOf_11 : decode cX12_partOf 11 = .ok (.lload_n 2, 1) := by decide +kernel
theorem dX12_partOf_12 : decode cX12_partOf 12 = .ok (.invokestatic 287, 3) := by decide +kernel
theorem dX12_partOf_15 : decode cX12_partOf 15 = .ok (.lstore 5, 2) := by decide +kernel
theorem dX12_partOf_17 : decode cX12_partOf 17 = .ok (.iload 4, 2) := by decide +kernel
theorem dX12_partOf_19 : decode cX12_partOf 19 = .ok (.ifCond .ne 10, 3) := by decide +kernel
theorem dX12_partOf_22 : decode cX12_partOf 22 = .ok (.lload_n 0, 1) := by decide +kernel
theorem dX12_partOf_23 : decode cX12_partOf 23 = .ok (.lload 5, 2) := by decide +kernel
theorem dX12_partOf_25 : decode cX12_partOf 25 = .ok (.ldiv, 1) := by decide +kernel
theorem dX12_partOf_26 : decode cX12_partOf 26 = .ok (.goto 7, 3) := by decide +kernel
theorem dX12_partOf_29 : decode cX12_partOf 29 = .ok (.lload_n 2, 1) := by decide +kernel
theorem dX12_partOf_30 : decode cX12_partOf 30 = .ok (.lload 5, 2) := by decide +kernel
theorem dX12_partOf_32 : decode cX12_partOf 32 = .ok (.ldiv, 1) := by decide +kernel
theorem dX12_partOf_33 : decode cX12_partOf 33 = .ok (.lreturn, 1) := by decide +kernel
theorem dX12_floods_0 : decode cX12_floods 0 = .ok (.aload_n 0, 1) := by decide +kernel
theorem dX12_floods_1 : decode cX12_floods 1 = .ok (.iconst 0, 1) := by decide +kernel
theorem dX12_floods_2 : decode cX12_floods 2 = .ok (.putfield 77, 3) := by decide +kernel
theorem dX12_floods_5 : decode cX12_floods 5 = .ok (.aload_n 0, 1) := by decide +kernel
theorem dX12_floods_6 : decode cX12_floods 6 = .ok (.iload_n 1, 1) := by decide +kernel
theorem dX12_floods_7 : decode cX12_floods 7 = .ok (.invokevirtual 181, 3) := by decide +kernel
theorem dX12_floods_10 : decode cX12_floods 10 = .ok (.ifCond .eq 48, 3) := by decide +kernel
theorem dX12_floods_13 : decode cX12_floods 13 = .ok (.iload_n 2, 1) := by decide +kernel
theorem dX12_floods_14 : decode cX12_floods 14 = .ok (.invokestatic 90, 3) := by decide +kernel
theorem dX12_floods_17 : decode cX12_floods 17 = .ok (.ifCond .eq 41, 3) := by decide +kernel
theorem dX12_floods_20 : decode cX12_floods 20 = .ok (.iload_n 3, 1) := by decide +kernel
theorem dX12_floods_21 : decode cX12_floods 21 = .ok (.i2l, 1) := by decide +kernel
theorem dX12_floods_22 : decode cX12_floods 22 = .ok (.lconst 0, 1) := by decide +kernel
theorem dX12_floods_23 : decode cX12_floods 23 = .ok (.ldc2_w 226, 3) := by decide +kernel
theorem dX12_floods_26 : decode cX12_floods 26 = .ok (.invokestatic 83, 3) := by decide +kernel
theorem dX12_floods_29 : decode cX12_floods 29 = .ok (.ifCond .eq 29, 3) := by decide +kernel
theorem dX12_floods_32 : decode cX12_floods 32 = .ok (.iload 4, 2) := by decide +kernel
theorem dX12_floods_34 : decode cX12_floods 34 = .ok (.i2l, 1) := by decide +kernel
theorem dX12_floods_35 : decode cX12_floods 35 = .ok (.ldc2_w 221, 3) := by decide +kernel
theorem dX12_floods_38 : decode cX12_floods 38 = .ok (.ldc2_w 291, 3) := by decide +kernel
theorem dX12_floods_41 : decode cX12_floods 41 = .ok (.invokestatic 83, 3) := by decide +kernel
theorem dX12_floods_44 : decode cX12_floods 44 = .ok (.ifCond .eq 14, 3) := by decide +kernel
theorem dX12_floods_47 : decode cX12_floods 47 = .ok (.iload 5, 2) := by decide +kernel
theorem dX12_floods_49 : decode cX12_floods 49 = .ok (.i2l, 1) := by decide +kernel
theorem dX12_floods_50 : decode cX12_floods 50 = .ok (.lconst 0, 1) := by decide +kernel
theorem dX12_floods_51 : decode cX12_floods 51 = .ok (.lconst 1, 1) := by decide +kernel
theorem dX12_floods_52 : decode cX12_floods 52 = .ok (.invokestatic 83, 3) := by decide +kernel
theorem dX12_floods_55 : decode cX12_floods 55 = .ok (.ifCond .ne 7, 3) := by decide +kernel
theorem dX12_floods_58 : decode cX12_floods 58 = .ok (.ldc2_w 293, 3) := by decide +kernel
theorem dX12_floods_61 : decode cX12_floods 61 = .ok (.lreturn, 1) := by decide +kernel
theorem dX12_floods_62 : decode cX12_floods 62 = .ok (.lconst 0, 1) := by decide +kernel
theorem dX12_floods_63 : decode cX12_floods 63 = .ok (.lstore 6, 2) := by decide +kernel
theorem dX12_floods_65 : decode cX12_floods 65 = .ok (.lconst 1, 1) := by decide +kernel
theorem dX12_floods_66 : decode cX12_floods 66 = .ok (.lstore 8, 2) := by decide +kernel
theorem dX12_floods_68 : decode cX12_floods 68 = .ok (.iconst 0, 1) := by decide +kernel
theorem dX12_floods_69 : decode cX12_floods 69 = .ok (.istore 10, 2) := by decide +kernel
theorem dX12_floods_71 : decode cX12_floods 71 = .ok (.iload 10, 2) := by decide +kernel
theorem dX12_floods_73 : decode cX12_floods 73 = .ok (.iload_n 3, 1) := by decide +kernel
theorem dX12_floods_74 : decode cX12_floods 74 = .ok (.if_icmp .ge 17, 3) := by decide +kernel
theorem dX12_floods_77 : decode cX12_floods 77 = .ok (.lload 8, 2) := by decide +kernel
theorem dX12_floods_79 : decode cX12_floods 79 = .ok (.iload 4, 2) := by decide +kernel
theorem dX12_floods_81 : decode cX12_floods 81 = .ok (.i2l, 1) := by decide +kernel
theorem dX12_floods_82 : decode cX12_floods 82 = .ok (.lmul, 1) := by decide +kernel
theorem dX12_floods_83 : decode cX12_floods 83 = .ok (.lstore 8, 2) := by decide +kernel
theorem dX12_floods_85 : decode cX12_floods 85 = .ok (.iinc 10 1, 3) := by decide +kernel
theorem dX12_floods_88 : decode cX12_floods 88 = .ok (.goto (-17), 3) := by decide +kernel
theorem dX12_floods_91 : decode cX12_floods 91 = .ok (.aload_n 0, 1) := by decide +kernel
theorem dX12_floods_92 : decode cX12_floods 92 = .ok (.invokevirtual 193, 3) := by decide +kernel
theorem dX12_floods_95 : decode cX12_floods 95 = .ok (.iconst 0, 1) := by decide +kernel
theorem dX12_floods_96 : decode cX12_floods 96 = .ok (.istore 10, 2) := by decide +kernel
theorem dX12_floods_98 : decode cX12_floods 98 = .ok (.iload 10, 2) := by decide +kernel
theorem dX12_floods_100 : decode cX12_floods 100 = .ok (.iconst 1, 1) := by decide +kernel
theorem dX12_floods_101 : decode cX12_floods 101 = .ok (.iload_n 3, 1) := by decide +kernel
theorem dX12_floods_102 : decode cX12_floods 102 = .ok (.ishl, 1) := by decide +kernel
theorem dX12_floods_103 : decode cX12_floods 103 = .ok (.if_icmp .ge 129, 3) := by decide +kernel
theorem dX12_floods_106 : decode cX12_floods 106 = .ok (.lconst 1, 1) := by decide +kernel
theorem dX12_floods_107 : decode cX12_floods 107 = .ok (.lstore 11, 2) := by decide +kernel
theorem dX12_floods_109 : decode cX12_floods 109 = .ok (.iconst 0, 1) := by decide +kernel
theorem dX12_floods_110 : decode cX12_floods 110 = .ok (.istore 13, 2) := by decide +kernel
theorem dX12_floods_112 : decode cX12_floods 112 = .ok (.iload 13, 2) := by decide +kernel
theorem dX12_floods_114 : decode cX12_floods 114 = .ok (.iload_n 3, 1) := by decide +kernel
theorem dX12_floods_115 : decode cX12_floods 115 = .ok (.if_icmp .ge 86, 3) := by decide +kernel
theorem dX12_floods_118 : decode cX12_floods 118 = .ok (.lload 11, 2) := by decide +kernel
theorem dX12_floods_120 : decode cX12_floods 120 = .ok (.iload 10, 2) := by decide +kernel
theorem dX12_floods_122 : decode cX12_floods 122 = .ok (.iload 13, 2) := by decide +kernel
theorem dX12_floods_124 : decode cX12_floods 124 = .ok (.invokestatic 105, 3) := by decide +kernel
theorem dX12_floods_127 : decode cX12_floods 127 = .ok (.ifCond .eq 7, 3) := by decide +kernel
theorem dX12_floods_130 : decode cX12_floods 130 = .ok (.lconst 1, 1) := by decide +kernel
theorem dX12_floods_131 : decode cX12_floods 131 = .ok (.goto 8, 3) := by decide +kernel
theorem dX12_floods_134 : decode cX12_floods 134 = .ok (.iload 4, 2) := by decide +kernel
theorem dX12_floods_136 : decode cX12_floods 136 = .ok (.iconst 1, 1) := by decide +kernel
theorem dX12_floods_137 : decode cX12_floods 137 = .ok (.isub, 1) := by decide +kernel
theorem dX12_floods_138 : decode cX12_floods 138 = .ok (.i2l, 1) := by decide +kernel
theorem dX12_floods_139 : decode cX12_floods 139 = .ok (.lmul, 1) := by decide +kernel
theorem dX12_floods_140 : decode cX12_floods 140 = .ok (.lstore 11, 2) := by decide +kernel
theorem dX12_floods_142 : decode cX12_floods 142 = .ok (.iconst 0, 1) := by decide +kernel
theorem dX12_floods_143 : decode cX12_floods 143 = .ok (.istore 14, 2) := by decide +kernel
theorem dX12_floods_145 : decode cX12_floods 145 = .ok (.iload 14, 2) := by decide +kernel
theorem dX12_floods_147 : decode cX12_floods 147 = .ok (.iconst 5, 1) := by decide +kernel
theorem dX12_floods_148 : decode cX12_floods 148 = .ok (.aload_n 0, 1) := by decide +kernel
theorem dX12_floods_149 : decode cX12_floods 149 = .ok (.getfield 87, 3) := by decide +kernel
theorem dX12_floods_152 : decode cX12_floods 152 = .ok (.imul, 1) := by decide +kernel
theorem dX12_floods_153 : decode cX12_floods 153 = .ok (.if_icmp .ge 38, 3) := by decide +kernel
theorem dX12_floods_156 : decode cX12_floods 156 = .ok (.iload 10, 2) := by decide +kernel
theorem dX12_floods_158 : decode cX12_floods 158 = .ok (.iload 13, 2) := by decide +kernel
theorem dX12_floods_160 : decode cX12_floods 160 = .ok (.invokestatic 105, 3) := by decide +kernel
theorem dX12_floods_163 : decode cX12_floods 163 = .ok (.ifCond .eq 28, 3) := by decide +kernel
theorem dX12_floods_166 : decode cX12_floods 166 = .ok (.aload_n 0, 1) := by decide +kernel
theorem dX12_floods_167 : decode cX12_floods 167 = .ok (.getfield 28, 3) := by decide +kernel
theorem dX12_floods_170 : decode cX12_floods 170 = .ok (.iload 14, 2) := by decide +kernel
theorem dX12_floods_172 : decode cX12_floods 172 = .ok (.dup2, 1) := by decide +kernel
theorem dX12_floods_173 : decode cX12_floods 173 = .ok (.iaload, 1) := by decide +kernel
theorem dX12_floods_174 : decode cX12_floods 174 = .ok (.aload_n 0, 1) := by decide +kernel
theorem dX12_floods_175 : decode cX12_floods 175 = .ok (.getfield 28, 3) := by decide +kernel
theorem dX12_floods_178 : decode cX12_floods 178 = .ok (.iload 14, 2) := by decide +kernel
theorem dX12_floods_180 : decode cX12_floods 180 = .ok (.iaload, 1) := by decide +kernel
theorem dX12_floods_181 : decode cX12_floods 181 = .ok (.iconst 1, 1) := by decide +kernel
theorem dX12_floods_182 : decode cX12_floods 182 = .ok (.isub, 1) := by decide +kernel
theorem dX12_floods_183 : decode cX12_floods 183 = .ok (.iand, 1) := by decide +kernel
theorem dX12_floods_184 : decode cX12_floods 184 = .ok (.iastore, 1) := by decide +kernel
theorem dX12_floods_185 : decode cX12_floods 185 = .ok (.iinc 14 1, 3) := by decide +kernel
theorem dX12_floods_188 : decode cX12_floods 188 = .ok (.goto (-43), 3) := by decide +kernel
theorem dX12_floods_191 : decode cX12_floods 191 = .ok (.aload_n 0, 1) := by decide +kernel
theorem dX12_floods_192 : decode cX12_floods 192 = .ok (.invokevirtual 132, 3) := by decide +kernel
theorem dX12_floods_195 : decode cX12_floods 195 = .ok (.iinc 13 1, 3) := by decide +kernel
theorem dX12_floods_198 : decode cX12_floods 198 = .ok (.goto (-86), 3) := by decide +kernel
theorem dX12_floods_201 : decode cX12_floods 201 = .ok (.lload 6, 2) := by decide +kernel
theorem dX12_floods_203 : decode cX12_floods 203 = .ok (.aload_n 0, 1) := by decide +kernel
theorem dX12_floods_204 : decode cX12_floods 204 = .ok (.getfield 16, 3) := by decide +kernel
theorem dX12_floods_207 : decode cX12_floods 207 = .ok (.iload_n 2, 1) := by decide +kernel
theorem dX12_floods_208 : decode cX12_floods 208 = .ok (.iaload, 1) := by decide +kernel
theorem dX12_floods_209 : decode cX12_floods 209 = .ok (.iload_n 1, 1) := by decide +kernel
theorem dX12_floods_210 : decode cX12_floods 210 = .ok (.if_icmp .ne 8, 3) := by decide +kernel
theorem dX12_floods_213 : decode cX12_floods 213 = .ok (.lload 11, 2) := by decide +kernel
theorem dX12_floods_215 : decode cX12_floods 215 = .ok (.goto 4, 3) := by decide +kernel
theorem dX12_floods_218 : decode cX12_floods 218 = .ok (.lconst 0, 1) := by decide +kernel
theorem dX12_floods_219 : decode cX12_floods 219 = .ok (.ladd, 1) := by decide +kernel
theorem dX12_floods_220 : decode cX12_floods 220 = .ok (.lstore 6, 2) := by decide +kernel
theorem dX12_floods_222 : decode cX12_floods 222 = .ok (.aload_n 0, 1) := by decide +kernel
theorem dX12_floods_223 : decode cX12_floods 223 = .ok (.invokevirtual 199, 3) := by decide +kernel
theorem dX12_floods_226 : decode cX12_floods 226 = .ok (.iinc 10 1, 3) := by decide +kernel
theorem dX12_floods_229 : decode cX12_floods 229 = .ok (.goto (-131), 3) := by decide +kernel
theorem dX12_floods_232 : decode cX12_floods 232 = .ok (.lload 6, 2) := by decide +kernel
theorem dX12_floods_234 : decode cX12_floods 234 = .ok (.lload 8, 2) := by decide +kernel
theorem dX12_floods_236 : decode cX12_floods 236 = .ok (.iload 5, 2) := by decide +kernel
theorem dX12_floods_238 : decode cX12_floods 238 = .ok (.invokestatic 295, 3) := by decide +kernel
theorem dX12_floods_241 : decode cX12_floods 241 = .ok (.lreturn, 1) := by decide +kernel
theorem dX12_allWorth_0 : decode cX12_allWorth 0 = .ok (.iconst 0, 1) := by decide +kernel
theorem dX12_allWorth_1 : decode cX12_allWorth 1 = .ok (.istore_n 1, 1) := by decide +kernel
theorem dX12_allWorth_2 : decode cX12_allWorth 2 = .ok (.iconst 0, 1) := by decide +kernel
theorem dX12_allWorth_3 : decode cX12_allWorth 3 = .ok (.istore_n 2, 1) := by decide +kernel
theorem dX12_allWorth_4 : decode cX12_allWorth 4 = .ok (.iload_n 2, 1) := by decide +kernel
theorem dX12_allWorth_5 : decode cX12_allWorth 5 = .ok (.iconst 5, 1) := by decide +kernel
theorem dX12_allWorth_6 : decode cX12_allWorth 6 = .ok (.if_icmp .ge 18, 3) := by decide +kernel
theorem dX12_allWorth_9 : decode cX12_allWorth 9 = .ok (.iload_n 1, 1) := by decide +kernel
theorem dX12_allWorth_10 : decode cX12_allWorth 10 = .ok (.aload_n 0, 1) := by decide +kernel
theorem dX12_allWorth_11 : decode cX12_allWorth 11 = .ok (.getfield 13, 3) := by decide +kernel
theorem dX12_allWorth_14 : decode cX12_allWorth 14 = .ok (.iload_n 2, 1) := by decide +kernel
theorem dX12_allWorth_15 : decode cX12_allWorth 15 = .ok (.iaload, 1) := by decide +kernel
theorem dX12_allWorth_16 : decode cX12_allWorth 16 = .ok (.iadd, 1) := by decide +kernel
theorem dX12_allWorth_17 : decode cX12_allWorth 17 = .ok (.istore_n 1, 1) := by decide +kernel
theorem dX12_allWorth_18 : decode cX12_allWorth 18 = .ok (.iinc 2 1, 3) := by decide +kernel
theorem dX12_allWorth_21 : decode cX12_allWorth 21 = .ok (.goto (-17), 3) := by decide +kernel
theorem dX12_allWorth_24 : decode cX12_allWorth 24 = .ok (.iload_n 1, 1) := by decide +kernel
theorem dX12_allWorth_25 : decode cX12_allWorth 25 = .ok (.ireturn, 1) := by decide +kernel
theorem dX12_share_0 : decode cX12_share 0 = .ok (.aload_n 0, 1) := by decide +kernel
theorem dX12_share_1 : decode cX12_share 1 = .ok (.iconst 0, 1) := by decide +kernel
theorem dX12_share_2 : decode cX12_share 2 = .ok (.putfield 77, 3) := by decide +kernel
theorem dX12_share_5 : decode cX12_share 5 = .ok (.aload_n 0, 1) := by decide +kernel
theorem dX12_share_6 : decode cX12_share 6 = .ok (.iload_n 1, 1) := by decide +kernel
theorem dX12_share_7 : decode cX12_share 7 = .ok (.invokevirtual 181, 3) := by decide +kernel
theorem dX12_share_10 : decode cX12_share 10 = .ok (.ifCond .eq 31, 3) := by decide +kernel
theorem dX12_share_13 : decode cX12_share 13 = .ok (.iload_n 2, 1) := by decide +kernel
theorem dX12_share_14 : decode cX12_share 14 = .ok (.i2l, 1) := by decide +kernel
theorem dX12_share_15 : decode cX12_share 15 = .ok (.lconst 0, 1) := by decide +kernel
theorem dX12_share_16 : decode cX12_share 16 = .ok (.lconst 1, 1) := by decide +kernel
theorem dX12_share_17 : decode cX12_share 17 = .ok (.invokestatic 83, 3) := by decide +kernel
theorem dX12_share_20 : decode cX12_share 20 = .ok (.ifCond .eq 21, 3) := by decide +kernel
theorem dX12_share_23 : decode cX12_share 23 = .ok (.aload_n 0, 1) := by decide +kernel
theorem dX12_share_24 : decode cX12_share 24 = .ok (.iload_n 1, 1) := by decide +kernel
theorem dX12_share_25 : decode cX12_share 25 = .ok (.invokevirtual 238, 3) := by decide +kernel
theorem dX12_share_28 : decode cX12_share 28 = .ok (.i2l, 1) := by decide +kernel
theorem dX12_share_29 : decode cX12_share 29 = .ok (.aload_n 0, 1) := by decide +kernel
theorem dX12_share_30 : decode cX12_share 30 = .ok (.invokevirtual 299, 3) := by decide +kernel
theorem dX12_share_33 : decode cX12_share 33 = .ok (.i2l, 1) := by decide +kernel
theorem dX12_share_34 : decode cX12_share 34 = .ok (.iload_n 2, 1) := by decide +kernel
theorem dX12_share_35 : decode cX12_share 35 = .ok (.invokestatic 295, 3) := by decide +kernel
theorem dX12_share_38 : decode cX12_share 38 = .ok (.goto 6, 3) := by decide +kernel
theorem dX12_share_41 : decode cX12_share 41 = .ok (.ldc2_w 293, 3) := by decide +kernel
theorem dX12_share_44 : decode cX12_share 44 = .ok (.lreturn, 1) := by decide +kernel
theorem dX12_forged_0 : decode cX12_forged 0 = .ok (.aload_n 0, 1) := by decide +kernel
theorem dX12_forged_1 : decode cX12_forged 1 = .ok (.iconst 0, 1) := by decide +kernel
theorem dX12_forged_2 : decode cX12_forged 2 = .ok (.putfield 77, 3) := by decide +kernel
theorem dX12_forged_5 : decode cX12_forged 5 = .ok (.aload_n 0, 1) := by decide +kernel
theorem dX12_forged_6 : decode cX12_forged 6 = .ok (.iload_n 1, 1) := by decide +kernel
theorem dX12_forged_7 : decode cX12_forged 7 = .ok (.invokevirtual 187, 3) := by decide +kernel
theorem dX12_forged_10 : decode cX12_forged 10 = .ok (.istore_n 2, 1) := by decide +kernel
theorem dX12_forged_11 : decode cX12_forged 11 = .ok (.iload_n 2, 1) := by decide +kernel
theorem dX12_forged_12 : decode cX12_forged 12 = .ok (.ifCond .ge 5, 3) := by decide +kernel
theorem dX12_forged_15 : decode cX12_forged 15 = .ok (.iload_n 2, 1) := by decide +kernel
theorem dX12_forged_16 : decode cX12_forged 16 = .ok (.ireturn, 1) := by decide +kernel
theorem dX12_forged_17 : decode cX12_forged 17 = .ok (.iconst 0, 1) := by decide +kernel
theorem dX12_forged_18 : decode cX12_forged 18 = .ok (.istore_n 3, 1) := by decide +kernel
theorem dX12_forged_19 : decode cX12_forged 19 = .ok (.iload_n 3, 1) := by decide +kernel
theorem dX12_forged_20 : decode cX12_forged 20 = .ok (.aload_n 0, 1) := by decide +kernel
theorem dX12_forged_21 : decode cX12_forged 21 = .ok (.getfield 43, 3) := by decide +kernel
theorem dX12_forged_24 : decode cX12_forged 24 = .ok (.iload_n 1, 1) := by decide +kernel
theorem dX12_forged_25 : decode cX12_forged 25 = .ok (.iaload, 1) := by decide +kernel
theorem dX12_forged_26 : decode cX12_forged 26 = .ok (.if_icmp .ge 38, 3) := by decide +kernel
theorem dX12_forged_29 : decode cX12_forged 29 = .ok (.iload_n 3, 1) := by decide +kernel
theorem dX12_forged_30 : decode cX12_forged 30 = .ok (.iconst 5, 1) := by decide +kernel
theorem dX12_forged_31 : decode cX12_forged 31 = .ok (.if_icmp .ge 25, 3) := by decide +kernel
theorem dX12_forged_34 : decode cX12_forged 34 = .ok (.aload_n 0, 1) := by decide +kernel
theorem dX12_forged_35 : decode cX12_forged 35 = .ok (.getfield 46, 3) := by decide +kernel
theorem dX12_forged_38 : decode cX12_forged 38 = .ok (.bipush 100, 2) := by decide +kernel
theorem dX12_forged_40 : decode cX12_forged 40 = .ok (.iload_n 1, 1) := by decide +kernel
theorem dX12_forged_41 : decode cX12_forged 41 = .ok (.imul, 1) := by decide +kernel
theorem dX12_forged_42 : decode cX12_forged 42 = .ok (.iload_n 3, 1) := by decide +kernel
theorem dX12_forged_43 : decode cX12_forged 43 = .ok (.iadd, 1) := by decide +kernel
theorem dX12_forged_44 : decode cX12_forged 44 = .ok (.laload, 1) := by decide +kernel
theorem dX12_forged_45 : decode cX12_forged 45 = .ok (.aload_n 0, 1) := by decide +kernel
theorem dX12_forged_46 : decode cX12_forged 46 = .ok (.getfield 16, 3) := by decide +kernel
theorem dX12_forged_49 : decode cX12_forged 49 = .ok (.iload_n 3, 1) := by decide +kernel
theorem dX12_forged_50 : decode cX12_forged 50 = .ok (.iaload, 1) := by decide +kernel
theorem dX12_forged_51 : decode cX12_forged 51 = .ok (.i2l, 1) := by decide +kernel
theorem dX12_forged_52 : decode cX12_forged 52 = .ok (.lcmp, 1) := by decide +kernel
theorem dX12_forged_53 : decode cX12_forged 53 = .ok (.ifCond .eq 5, 3) := by decide +kernel
theorem dX12_forged_56 : decode cX12_forged 56 = .ok (.iload_n 3, 1) := by decide +kernel
theorem dX12_forged_57 : decode cX12_forged 57 = .ok (.ireturn, 1) := by decide +kernel
theorem dX12_forged_58 : decode cX12_forged 58 = .ok (.iinc 3 1, 3) := by decide +kernel
theorem dX12_forged_61 : decode cX12_forged 61 = .ok (.goto (-42), 3) := by decide +kernel
theorem dX12_forged_64 : decode cX12_forged 64 = .ok (.bipush (-4), 2) := by decide +kernel
theorem dX12_forged_66 : decode cX12_forged 66 = .ok (.ireturn, 1) := by decide +kernel
theorem dX12_judge_0 : decode cX12_judge 0 = .ok (.aload_n 0, 1) := by decide +kernel
theorem dX12_judge_1 : decode cX12_judge 1 = .ok (.iconst 0, 1) := by decide +kernel
theorem dX12_judge_2 : decode cX12_judge 2 = .ok (.putfield 77, 3) := by decide +kernel
theorem dX12_judge_5 : decode cX12_judge 5 = .ok (.aload_n 0, 1) := by decide +kernel
theorem dX12_judge_6 : decode cX12_judge 6 = .ok (.iload_n 2, 1) := by decide +kernel
theorem dX12_judge_7 : decode cX12_judge 7 = .ok (.invokevirtual 181, 3) := by decide +kernel
theorem dX12_judge_10 : decode cX12_judge 10 = .ok (.ifCond .eq 11, 3) := by decide +kernel
theorem dX12_judge_13 : decode cX12_judge 13 = .ok (.aload_n 0, 1) := by decide +kernel
theorem dX12_judge_14 : decode cX12_judge 14 = .ok (.iload_n 1, 1) := by decide +kernel
theorem dX12_judge_15 : decode cX12_judge 15 = .ok (.invokevirtual 187, 3) := by decide +kernel
theorem dX12_judge_18 : decode cX12_judge 18 = .ok (.goto 4, 3) := by decide +kernel
theorem dX12_judge_21 : decode cX12_judge 21 = .ok (.iconst (-1), 1) := by decide +kernel
theorem dX12_judge_22 : decode cX12_judge 22 = .ok (.istore_n 3, 1) := by decide +kernel
theorem dX12_judge_23 : decode cX12_judge 23 = .ok (.iload_n 3, 1) := by decide +kernel
theorem dX12_judge_24 : decode cX12_judge 24 = .ok (.ifCond .ge 5, 3) := by decide +kernel
theorem dX12_judge_27 : decode cX12_judge 27 = .ok (.iload_n 3, 1) := by decide +kernel
theorem dX12_judge_28 : decode cX12_judge 28 = .ok (.ireturn, 1) := by decide +kernel
theorem dX12_judge_29 : decode cX12_judge 29 = .ok (.bipush (-4), 2) := by decide +kernel
theorem dX12_judge_31 : decode cX12_judge 31 = .ok (.istore 4, 2) := by decide +kernel
theorem dX12_judge_33 : decode cX12_judge 33 = .ok (.aload_n 0, 1) := by decide +kernel
theorem dX12_judge_34 : decode cX12_judge 34 = .ok (.invokevirtual 193, 3) := by decide +kernel
theorem dX12_judge_37 : decode cX12_judge 37 = .ok (.iconst 0, 1) := by decide +kernel
theorem dX12_judge_38 : decode cX12_judge 38 = .ok (.istore 5, 2) := by decide +kernel
theorem dX12_judge_40 : decode cX12_judge 40 = .ok (.iload 5, 2) := by decide +kernel
theorem dX12_judge_42 : decode cX12_judge 42 = .ok (.aload_n 0, 1) := by decide +kernel
theorem dX12_judge_43 : decode cX12_judge 43 = .ok (.getfield 43, 3) := by decide +kernel
theorem dX12_judge_46 : decode cX12_judge 46 = .ok (.iload_n 1, 1) := by decide +kernel
theorem dX12_judge_47 : decode cX12_judge 47 = .ok (.iaload, 1) := by decide +kernel
theorem dX12_judge_48 : decode cX12_judge 48 = .ok (.if_icmp .ge 62, 3) := by decide +kernel
theorem dX12_judge_51 : decode cX12_judge 51 = .ok (.iload 4, 2) := by decide +kernel
theorem dX12_judge_53 : decode cX12_judge 53 = .ok (.ifCond .ge 57, 3) := by decide +kernel
theorem dX12_judge_56 : decode cX12_judge 56 = .ok (.aload_n 0, 1) := by decide +kernel
theorem dX12_judge_57 : decode cX12_judge 57 = .ok (.iload_n 1, 1) := by decide +kernel
theorem dX12_judge_58 : decode cX12_judge 58 = .ok (.iload 5, 2) := by decide +kernel
theorem dX12_judge_60 : decode cX12_judge 60 = .ok (.invokevirtual 276, 3) := by decide +kernel
theorem dX12_judge_63 : decode cX12_judge 63 = .ok (.ifCond .ne 33, 3) := by decide +kernel
theorem dX12_judge_66 : decode cX12_judge 66 = .ok (.aload_n 0, 1) := by decide +kernel
theorem dX12_judge_67 : decode cX12_judge 67 = .ok (.getfield 46, 3) := by decide +kernel
theorem dX12_judge_70 : decode cX12_judge 70 = .ok (.bipush 100, 2) := by decide +kernel
theorem dX12_judge_72 : decode cX12_judge 72 = .ok (.iload_n 1, 1) := by decide +kernel
theorem dX12_judge_73 : decode cX12_judge 73 = .ok (.imul, 1) := by decide +kernel
theorem dX12_judge_74 : decode cX12_judge 74 = .ok (.iload 5, 2) := by decide +kernel
theorem dX12_judge_76 : decode cX12_judge 76 = .ok (.iadd, 1) := by decide +kernel
theorem dX12_judge_77 : decode cX12_judge 77 = .ok (.laload, 1) := by decide +kernel
theorem dX12_judge_78 : decode cX12_judge 78 = .ok (.aload_n 0, 1) := by decide +kernel
theorem dX12_judge_79 : decode cX12_judge 79 = .ok (.iload_n 2, 1) := by decide +kernel
theorem dX12_judge_80 : decode cX12_judge 80 = .ok (.invokevirtual 135, 3) := by decide +kernel
theorem dX12_judge_83 : decode cX12_judge 83 = .ok (.invokestatic 94, 3) := by decide +kernel
theorem dX12_judge_86 : decode cX12_judge 86 = .ok (.i2l, 1) := by decide +kernel
theorem dX12_judge_87 : decode cX12_judge 87 = .ok (.lcmp, 1) := by decide +kernel
theorem dX12_judge_88 : decode cX12_judge 88 = .ok (.ifCond .eq 8, 3) := by decide +kernel
theorem dX12_judge_91 : decode cX12_judge 91 = .ok (.iload 5, 2) := by decide +kernel
theorem dX12_judge_93 : decode cX12_judge 93 = .ok (.goto 5, 3) := by decide +kernel
theorem dX12_judge_96 : decode cX12_judge 96 = .ok (.bipush (-4), 2) := by decide +kernel
theorem dX12_judge_98 : decode cX12_judge 98 = .ok (.istore 4, 2) := by decide +kernel
theorem dX12_judge_100 : decode cX12_judge 100 = .ok (.aload_n 0, 1) := by decide +kernel
theorem dX12_judge_101 : decode cX12_judge 101 = .ok (.invokevirtual 132, 3) := by decide +kernel
theorem dX12_judge_104 : decode cX12_judge 104 = .ok (.iinc 5 1, 3) := by decide +kernel
theorem dX12_judge_107 : decode cX12_judge 107 = .ok (.goto (-67), 3) := by decide +kernel
theorem dX12_judge_110 : decode cX12_judge 110 = .ok (.aload_n 0, 1) := by decide +kernel
theorem dX12_judge_111 : decode cX12_judge 111 = .ok (.invokevirtual 199, 3) := by decide +kernel
theorem dX12_judge_114 : decode cX12_judge 114 = .ok (.iload 4, 2) := by decide +kernel
theorem dX12_judge_116 : decode cX12_judge 116 = .ok (.ireturn, 1) := by decide +kernel
theorem dX12_drawBelow_0 : decode cX12_drawBelow 0 = .ok (.aload_n 0, 1) := by decide +kernel
theorem dX12_drawBelow_1 : decode cX12_drawBelow 1 = .ok (.aload_n 0, 1) := by decide +kernel
theorem dX12_drawBelow_2 : decode cX12_drawBelow 2 = .ok (.getfield 302, 3) := by decide +kernel
theorem dX12_drawBelow_5 : decode cX12_drawBelow 5 = .ok (.ldc_w 305, 3) := by decide +kernel
theorem dX12_drawBelow_8 : decode cX12_drawBelow 8 = .ok (.imul, 1) := by decide +kernel
theorem dX12_drawBelow_9 : decode cX12_drawBelow 9 = .ok (.sipush 12345, 3) := by decide +kernel
theorem dX12_drawBelow_12 : decode cX12_drawBelow 12 = .ok (.iadd, 1) := by decide +kernel
theorem dX12_drawBelow_13 : decode cX12_drawBelow 13 = .ok (.putfield 302, 3) := by decide +kernel
theorem dX12_drawBelow_16 : decode cX12_drawBelow 16 = .ok (.aload_n 0, 1) := by decide +kernel
theorem dX12_drawBelow_17 : decode cX12_drawBelow 17 = .ok (.getfield 302, 3) := by decide +kernel
theorem dX12_drawBelow_20 : decode cX12_drawBelow 20 = .ok (.ldc_w 306, 3) := by decide +kernel
theorem dX12_drawBelow_23 : decode cX12_drawBelow 23 = .ok (.iand, 1) := by decide +kernel
theorem dX12_drawBelow_24 : decode cX12_drawBelow 24 = .ok (.ldc_w 307, 3) := by decide +kernel
theorem dX12_drawBelow_27 : decode cX12_drawBelow 27 = .ok (.idiv, 1) := by decide +kernel
theorem dX12_drawBelow_28 : decode cX12_drawBelow 28 = .ok (.iload_n 1, 1) := by decide +kernel
theorem dX12_drawBelow_29 : decode cX12_drawBelow 29 = .ok (.irem, 1) := by decide +kernel
theorem dX12_drawBelow_30 : decode cX12_drawBelow 30 = .ok (.ireturn, 1) := by decide +kernel
theorem dX12_ownedAnew_0 : decode cX12_ownedAnew 0 = .ok (.iconst 0, 1) := by decide +kernel
theorem dX12_ownedAnew_1 : decode cX12_ownedAnew 1 = .ok (.istore_n 1, 1) := by decide +kernel
theorem dX12_ownedAnew_2 : decode cX12_ownedAnew 2 = .ok (.iconst 0, 1) := by decide +kernel
theorem dX12_ownedAnew_3 : decode cX12_ownedAnew 3 = .ok (.istore_n 2, 1) := by decide +kernel
theorem dX12_ownedAnew_4 : decode cX12_ownedAnew 4 = .ok (.iload_n 2, 1) := by decide +kernel
theorem dX12_ownedAnew_5 : decode cX12_ownedAnew 5 = .ok (.iconst 5, 1) := by decide +kernel
theorem dX12_ownedAnew_6 : decode cX12_ownedAnew 6 = .ok (.if_icmp .ge 43, 3) := by decide +kernel
theorem dX12_ownedAnew_9 : decode cX12_ownedAnew 9 = .ok (.iload_n 1, 1) := by decide +kernel
theorem dX12_ownedAnew_10 : decode cX12_ownedAnew 10 = .ok (.aload_n 0, 1) := by decide +kernel
theorem dX12_ownedAnew_11 : decode cX12_ownedAnew 11 = .ok (.getfield 16, 3) := by decide +kernel
theorem dX12_ownedAnew_14 : decode cX12_ownedAnew 14 = .ok (.iload_n 2, 1) := by decide +kernel
theorem dX12_ownedAnew_15 : decode cX12_ownedAnew 15 = .ok (.iaload, 1) := by decide +kernel
theorem dX12_ownedAnew_16 : decode cX12_ownedAnew 16 = .ok (.bipush 9, 2) := by decide +kernel
theorem dX12_ownedAnew_18 : decode cX12_ownedAnew 18 = .ok (.if_icmp .eq 22, 3) := by decide +kernel
theorem dX12_ownedAnew_21 : decode cX12_ownedAnew 21 = .ok (.aload_n 0, 1) := by decide +kernel
theorem dX12_ownedAnew_22 : decode cX12_ownedAnew 22 = .ok (.getfield 16, 3) := by decide +kernel
theorem dX12_ownedAnew_25 : decode cX12_ownedAnew 25 = .ok (.iload_n 2, 1) := by decide +kernel
theorem dX12_ownedAnew_26 : decode cX12_ownedAnew 26 = .ok (.iaload, 1) := by decide +kernel
theorem dX12_ownedAnew_27 : decode cX12_ownedAnew 27 = .ok (.aload_n 0, 1) := by decide +kernel
theorem dX12_ownedAnew_28 : decode cX12_ownedAnew 28 = .ok (.getfield 68, 3) := by decide +kernel
theorem dX12_ownedAnew_31 : decode cX12_ownedAnew 31 = .ok (.iload_n 2, 1) := by decide +kernel
theorem dX12_ownedAnew_32 : decode cX12_ownedAnew 32 = .ok (.iaload, 1) := by decide +kernel
theorem dX12_ownedAnew_33 : decode cX12_ownedAnew 33 = .ok (.if_icmp .eq 7, 3) := by decide +kernel
theorem dX12_ownedAnew_36 : decode cX12_ownedAnew 36 = .ok (.iconst 1, 1) := by decide +kernel
theorem dX12_ownedAnew_37 : decode cX12_ownedAnew 37 = .ok (.goto 4, 3) := by decide +kernel
theorem dX12_ownedAnew_40 : decode cX12_ownedAnew 40 = .ok (.iconst 0, 1) := by decide +kernel
theorem dX12_ownedAnew_41 : decode cX12_ownedAnew 41 = .ok (.iadd, 1) := by decide +kernel
theorem dX12_ownedAnew_42 : decode cX12_ownedAnew 42 = .ok (.istore_n 1, 1) := by decide +kernel
theorem dX12_ownedAnew_43 : decode cX12_ownedAnew 43 = .ok (.iinc 2 1, 3) := by decide +kernel
theorem dX12_ownedAnew_46 : decode cX12_ownedAnew 46 = .ok (.goto (-42), 3) := by decide +kernel
theorem dX12_ownedAnew_49 : decode cX12_ownedAnew 49 = .ok (.iload_n 1, 1) := by decide +kernel
theorem dX12_ownedAnew_50 : decode cX12_ownedAnew 50 = .ok (.ireturn, 1) := by decide +kernel
theorem dX12_years_0 : decode cX12_years 0 = .ok (.aload_n 0, 1) := by decide +kernel
theorem dX12_years_1 : decode cX12_years 1 = .ok (.iconst 0, 1) := by decide +kernel
theorem dX12_years_2 : decode cX12_years 2 = .ok (.putfield 77, 3) := by decide +kernel
theorem dX12_years_5 : decode cX12_years 5 = .ok (.iload_n 1, 1) := by decide +kernel
theorem dX12_years_6 : decode cX12_years 6 = .ok (.i2l, 1) := by decide +kernel
theorem dX12_years_7 : decode cX12_years 7 = .ok (.lconst 1, 1) := by decide +kernel
theorem dX12_years_8 : decode cX12_years 8 = .ok (.ldc2_w 291, 3) := by decide +kernel
theorem dX12_years_11 : decode cX12_years 11 = .ok (.invokestatic 83, 3) := by decide +kernel
theorem dX12_years_14 : decode cX12_years 14 = .ok (.ifCond .eq 13, 3) := by decide +kernel
theorem dX12_years_17 : decode cX12_years 17 = .ok (.iload_n 3, 1) := by decide +kernel
theorem dX12_years_18 : decode cX12_years 18 = .ok (.i2l, 1) := by decide +kernel
theorem dX12_years_19 : decode cX12_years 19 = .ok (.lconst 0, 1) := by decide +kernel
theorem dX12_years_20 : decode cX12_years 20 = .ok (.lconst 1, 1) := by decide +kernel
theorem dX12_years_21 : decode cX12_years 21 = .ok (.invokestatic 83, 3) := by decide +kernel
theorem dX12_years_24 : decode cX12_years 24 = .ok (.ifCond .ne 5, 3) := by decide +kernel
theorem dX12_years_27 : decode cX12_years 27 = .ok (.iconst (-1), 1) := by decide +kernel
theorem dX12_years_28 : decode cX12_years 28 = .ok (.ireturn, 1) := by decide +kernel
theorem dX12_years_29 : decode cX12_years 29 = .ok (.aload_n 0, 1) := by decide +kernel
theorem dX12_years_30 : decode cX12_years 30 = .ok (.iload_n 2, 1) := by decide +kernel
theorem dX12_years_31 : decode cX12_years 31 = .ok (.putfield 302, 3) := by decide +kernel
theorem dX12_years_34 : decode cX12_years 34 = .ok (.iconst 0, 1) := by decide +kernel
theorem dX12_years_35 : decode cX12_years 35 = .ok (.istore 4, 2) := by decide +kernel
theorem dX12_years_37 : decode cX12_years 37 = .ok (.aload_n 0, 1) := by decide +kernel
theorem dX12_years_38 : decode cX12_years 38 = .ok (.invokevirtual 193, 3) := by decide +kernel
theorem dX12_years_41 : decode cX12_years 41 = .ok (.iconst 0, 1) := by decide +kernel
theorem dX12_years_42 : decode cX12_years 42 = .ok (.istore 5, 2) := by decide +kernel
theorem dX12_years_44 : decode cX12_years 44 = .ok (.iload 5, 2) := by decide +kernel
theorem dX12_years_46 : decode cX12_years 46 = .ok (.iconst 5, 1) := by decide +kernel
theorem dX12_years_47 : decode cX12_years 47 = .ok (.if_icmp .ge 23, 3) := by decide +kernel
theorem dX12_years_50 : decode cX12_years 50 = .ok (.aload_n 0, 1) := by decide +kernel
theorem dX12_years_51 : decode cX12_years 51 = .ok (.getfield 68, 3) := by decide +kernel
theorem dX12_years_54 : decode cX12_years 54 = .ok (.iload 5, 2) := by decide +kernel
theorem dX12_years_56 : decode cX12_years 56 = .ok (.aload_n 0, 1) := by decide +kernel
theorem dX12_years_57 : decode cX12_years 57 = .ok (.getfield 16, 3) := by decide +kernel
theorem dX12_years_60 : decode cX12_years 60 = .ok (.iload 5, 2) := by decide +kernel
theorem dX12_years_62 : decode cX12_years 62 = .ok (.iaload, 1) := by decide +kernel
theorem dX12_years_63 : decode cX12_years 63 = .ok (.iastore, 1) := by decide +kernel
theorem dX12_years_64 : decode cX12_years 64 = .ok (.iinc 5 1, 3) := by decide +kernel
theorem dX12_years_67 : decode cX12_years 67 = .ok (.goto (-23), 3) := by decide +kernel
theorem dX12_years_70 : decode cX12_years 70 = .ok (.iconst 0, 1) := by decide +kernel
theorem dX12_years_71 : decode cX12_years 71 = .ok (.istore 5, 2) := by decide +kernel
theorem dX12_years_73 : decode cX12_years 73 = .ok (.iload 5, 2) := by decide +kernel
theorem dX12_years_75 : decode cX12_years 75 = .ok (.iload_n 1, 1) := by decide +kernel
theorem dX12_years_76 : decode cX12_years 76 = .ok (.if_icmp .ge 101, 3) := by decide +kernel
theorem dX12_years_79 : decode cX12_years 79 = .ok (.iconst 0, 1) := by decide +kernel
theorem dX12_years_80 : decode cX12_years 80 = .ok (.istore 6, 2) := by decide +kernel
theorem dX12_years_82 : decode cX12_years 82 = .ok (.iload 6, 2) := by decide +kernel
theorem dX12_years_84 : decode cX12_years 84 = .ok (.iconst 5, 1) := by decide +kernel
theorem dX12_years_85 : decode cX12_years 85 = .ok (.if_icmp .ge 23, 3) := by decide +kernel
theorem dX12_years_88 : decode cX12_years 88 = .ok (.aload_n 0, 1) := by decide +kernel
theorem dX12_years_89 : decode cX12_years 89 = .ok (.getfield 7, 3) := by decide +kernel
theorem dX12_years_92 : decode cX12_years 92 = .ok (.iload 6, 2) := by decide +kernel
theorem dX12_years_94 : decode cX12_years 94 = .ok (.aload_n 0, 1) := by decide +kernel
theorem dX12_years_95 : decode cX12_years 95 = .ok (.sipush 4096, 3) := by decide +kernel
theorem dX12_years_98 : decode cX12_years 98 = .ok (.invokevirtual 308, 3) := by decide +kernel
theorem dX12_years_101 : decode cX12_years 101 = .ok (.iastore, 1) := by decide +kernel
theorem dX12_years_102 : decode cX12_years 102 = .ok (.iinc 6 1, 3) := by decide +kernel
theorem dX12_years_105 : decode cX12_years 105 = .ok (.goto (-23), 3) := by decide +kernel
theorem dX12_years_108 : decode cX12_years 108 = .ok (.iconst 0, 1) := by decide +kernel
theorem dX12_years_109 : decode cX12_years 109 = .ok (.istore 6, 2) := by decide +kernel
theorem dX12_years_111 : decode cX12_years 111 = .ok (.iload 6, 2) := by decide +kernel
theorem dX12_years_113 : decode cX12_years 113 = .ok (.aload_n 0, 1) := by decide +kernel
theorem dX12_years_114 : decode cX12_years 114 = .ok (.getfield 87, 3) := by decide +kernel
theorem dX12_years_117 : decode cX12_years 117 = .ok (.if_icmp .ge 21, 3) := by decide +kernel
theorem dX12_years_120 : decode cX12_years 120 = .ok (.aload_n 0, 1) := by decide +kernel
theorem dX12_years_121 : decode cX12_years 121 = .ok (.getfield 25, 3) := by decide +kernel
theorem dX12_years_124 : decode cX12_years 124 = .ok (.iload 6, 2) := by decide +kernel
theorem dX12_years_126 : decode cX12_years 126 = .ok (.aload_n 0, 1) := by decide +kernel
theorem dX12_years_127 : decode cX12_years 127 = .ok (.iconst 5, 1) := by decide +kernel
theorem dX12_years_128 : decode cX12_years 128 = .ok (.invokevirtual 308, 3) := by decide +kernel
theorem dX12_years_131 : decode cX12_years 131 = .ok (.iastore, 1) := by decide +kernel
theorem dX12_years_132 : decode cX12_years 132 = .ok (.iinc 6 1, 3) := by decide +kernel
theorem dX12_years_135 : decode cX12_years 135 = .ok (.goto (-24), 3) := by decide +kernel
theorem dX12_years_138 : decode cX12_years 138 = .ok (.aload_n 0, 1) := by decide +kernel
theorem dX12_years_139 : decode cX12_years 139 = .ok (.bipush 8, 2) := by decide +kernel
theorem dX12_years_141 : decode cX12_years 141 = .ok (.invokevirtual 174, 3) := by decide +kernel
theorem dX12_years_144 : decode cX12_years 144 = .ok (.iload 4, 2) := by decide +kernel
theorem dX12_years_146 : decode cX12_years 146 = .ok (.iload_n 3, 1) := by decide +kernel
theorem dX12_years_147 : decode cX12_years 147 = .ok (.ifCond .ne 13, 3) := by decide +kernel
theorem dX12_years_150 : decode cX12_years 150 = .ok (.aload_n 0, 1) := by decide +kernel
theorem dX12_years_151 : decode cX12_years 151 = .ok (.invokevirtual 235, 3) := by decide +kernel
theorem dX12_years_154 : decode cX12_years 154 = .ok (.invokestatic 94, 3) := by decide +kernel
theorem dX12_years_157 : decode cX12_years 157 = .ok (.goto 7, 3) := by decide +kernel
theorem dX12_years_160 : decode cX12_years 160 = .ok (.aload_n 0, 1) := by decide +kernel
theorem dX12_years_161 : decode cX12_years 161 = .ok (.invokevirtual 311, 3) := by decide +kernel
theorem dX12_years_164 : decode cX12_years 164 = .ok (.iadd, 1) := by decide +kernel
theorem dX12_years_165 : decode cX12_years 165 = .ok (.istore 4, 2) := by decide +kernel
theorem dX12_years_167 : decode cX12_years 167 = .ok (.aload_n 0, 1) := by decide +kernel
theorem dX12_years_168 : decode cX12_years 168 = .ok (.invokevirtual 199, 3) := by decide +kernel
theorem dX12_years_171 : decode cX12_years 171 = .ok (.iinc 5 1, 3) := by decide +kernel
theorem dX12_years_174 : decode cX12_years 174 = .ok (.goto (-101), 3) := by decide +kernel
theorem dX12_years_177 : decode cX12_years 177 = .ok (.iload 4, 2) := by decide +kernel
theorem dX12_years_179 : decode cX12_years 179 = .ok (.ireturn, 1) := by decide +kernel
theorem dX12_allKnown_0 : decode cX12_allKnown 0 = .ok (.iconst 0, 1) := by decide +kernel
theorem dX12_allKnown_1 : decode cX12_allKnown 1 = .ok (.istore_n 1, 1) := by decide +kernel
theorem dX12_allKnown_2 : decode cX12_allKnown 2 = .ok (.iconst 0, 1) := by decide +kernel
theorem dX12_allKnown_3 : decode cX12_allKnown 3 = .ok (.istore_n 2, 1) := by decide +kernel
theorem dX12_allKnown_4 : decode cX12_allKnown 4 = .ok (.iload_n 2, 1) := by decide +kernel
theorem dX12_allKnown_5 : decode cX12_allKnown 5 = .ok (.iconst 5, 1) := by decide +kernel
theorem dX12_allKnown_6 : decode cX12_allKnown 6 = .ok (.aload_n 0, 1) := by decide +kernel
theorem dX12_allKnown_7 : decode cX12_allKnown 7 = .ok (.getfield 87, 3) := by decide +kernel
theorem dX12_allKnown_10 : decode cX12_allKnown 10 = .ok (.imul, 1) := by decide +kernel
theorem dX12_allKnown_11 : decode cX12_allKnown 11 = .ok (.if_icmp .ge 21, 3) := by decide +kernel
theorem dX12_allKnown_14 : decode cX12_allKnown 14 = .ok (.iload_n 1, 1) := by decide +kernel
theorem dX12_allKnown_15 : decode cX12_allKnown 15 = .ok (.aload_n 0, 1) := by decide +kernel
theorem dX12_allKnown_16 : decode cX12_allKnown 16 = .ok (.getfield 28, 3) := by decide +kernel
theorem dX12_allKnown_19 : decode cX12_allKnown 19 = .ok (.iload_n 2, 1) := by decide +kernel
theorem dX12_allKnown_20 : decode cX12_allKnown 20 = .ok (.iaload, 1) := by decide +kernel
theorem dX12_allKnown_21 : decode cX12_allKnown 21 = .ok (.invokestatic 94, 3) := by decide +kernel
theorem dX12_allKnown_24 : decode cX12_allKnown 24 = .ok (.iadd, 1) := by decide +kernel
theorem dX12_allKnown_25 : decode cX12_allKnown 25 = .ok (.istore_n 1, 1) := by decide +kernel
theorem dX12_allKnown_26 : decode cX12_allKnown 26 = .ok (.iinc 2 1, 3) := by decide +kernel
theorem dX12_allKnown_29 : decode cX12_allKnown 29 = .ok (.goto (-25), 3) := by decide +kernel
theorem dX12_allKnown_32 : decode cX12_allKnown 32 = .ok (.iload_n 1, 1) := by decide +kernel
theorem dX12_allKnown_33 : decode cX12_allKnown 33 = .ok (.ireturn, 1) := by decide +kernel
theorem dX12_count_0 : decode cX12_count 0 = .ok (.aload_n 0, 1) := by decide +kernel
theorem dX12_count_1 : decode cX12_count 1 = .ok (.iconst 0, 1) := by decide +kernel
theorem dX12_count_2 : decode cX12_count 2 = .ok (.putfield 77, 3) := by decide +kernel
theorem dX12_count_5 : decode cX12_count 5 = .ok (.iload_n 1, 1) := by decide +kernel
theorem dX12_count_6 : decode cX12_count 6 = .ok (.tableswitch 59 0 4 #[34, 39, 44, 49, 54], 34) := by decide +kernel
theorem dX12_count_40 : decode cX12_count 40 = .ok (.aload_n 0, 1) := by decide +kernel
theorem dX12_count_41 : decode cX12_count 41 = .ok (.getfield 87, 3) := by decide +kernel
theorem dX12_count_44 : decode cX12_count 44 = .ok (.ireturn, 1) := by decide +kernel
theorem dX12_count_45 : decode cX12_count 45 = .ok (.aload_n 0, 1) := by decide +kernel
theorem dX12_count_46 : decode cX12_count 46 = .ok (.getfield 113, 3) := by decide +kernel
theorem dX12_count_49 : decode cX12_count 49 = .ok (.ireturn, 1) := by decide +kernel
theorem dX12_count_50 : decode cX12_count 50 = .ok (.aload_n 0, 1) := by decide +kernel
theorem dX12_count_51 : decode cX12_count 51 = .ok (.invokevirtual 235, 3) := by decide +kernel
theorem dX12_count_54 : decode cX12_count 54 = .ok (.ireturn, 1) := by decide +kernel
theorem dX12_count_55 : decode cX12_count 55 = .ok (.aload_n 0, 1) := by decide +kernel
theorem dX12_count_56 : decode cX12_count 56 = .ok (.invokevirtual 299, 3) := by decide +kernel
theorem dX12_count_59 : decode cX12_count 59 = .ok (.ireturn, 1) := by decide +kernel
theorem dX12_count_60 : decode cX12_count 60 = .ok (.aload_n 0, 1) := by decide +kernel
theorem dX12_count_61 : decode cX12_count 61 = .ok (.invokevirtual 314, 3) := by decide +kernel
theorem dX12_count_64 : decode cX12_count 64 = .ok (.ireturn, 1) := by decide +kernel
theorem dX12_count_65 : decode cX12_count 65 = .ok (.iconst (-1), 1) := by decide +kernel
theorem dX12_count_66 : decode cX12_count 66 = .ok (.ireturn, 1) := by decide +kernel
theorem dX12_wrongKept_0 : decode cX12_wrongKept 0 = .ok (.iload_n 1, 1) := by decide +kernel
theorem dX12_wrongKept_1 : decode cX12_wrongKept 1 = .ok (.i2l, 1) := by decide +kernel
theorem dX12_wrongKept_2 : decode cX12_wrongKept 2 = .ok (.lconst 0, 1) := by decide +kernel
theorem dX12_wrongKept_3 : decode cX12_wrongKept 3 = .ok (.ldc2_w 226, 3) := by decide +kernel
theorem dX12_wrongKept_6 : decode cX12_wrongKept 6 = .ok (.invokestatic 83, 3) := by decide +kernel
theorem dX12_wrongKept_9 : decode cX12_wrongKept 9 = .ok (.ifCond .ne 7, 3) := by decide +kernel
theorem dX12_wrongKept_12 : decode cX12_wrongKept 12 = .ok (.iconst (-1), 1) := by decide +kernel
theorem dX12_wrongKept_13 : decode cX12_wrongKept 13 = .ok (.goto 33, 3) := by decide +kernel
theorem dX12_wrongKept_16 : decode cX12_wrongKept 16 = .ok (.aload_n 0, 1) := by decide +kernel
theorem dX12_wrongKept_17 : decode cX12_wrongKept 17 = .ok (.getfield 31, 3) := by decide +kernel
theorem dX12_wrongKept_20 : decode cX12_wrongKept 20 = .ok (.iload_n 1, 1) := by decide +kernel
theorem dX12_wrongKept_21 : decode cX12_wrongKept 21 = .ok (.iaload, 1) := by decide +kernel
theorem dX12_wrongKept_22 : decode cX12_wrongKept 22 = .ok (.ifCond .ne 8, 3) := by decide +kernel
theorem dX12_wrongKept_25 : decode cX12_wrongKept 25 = .ok (.bipush (-11), 2) := by decide +kernel
theorem dX12_wrongKept_27 : decode cX12_wrongKept 27 = .ok (.goto 19, 3) := by decide +kernel
theorem dX12_wrongKept_30 : decode cX12_wrongKept 30 = .ok (.aload_n 0, 1) := by decide +kernel
theorem dX12_wrongKept_31 : decode cX12_wrongKept 31 = .ok (.getfield 31, 3) := by decide +kernel
theorem dX12_wrongKept_34 : decode cX12_wrongKept 34 = .ok (.iload_n 1, 1) := by decide +kernel
theorem dX12_wrongKept_35 : decode cX12_wrongKept 35 = .ok (.iaload, 1) := by decide +kernel
theorem dX12_wrongKept_36 : decode cX12_wrongKept 36 = .ok (.iconst 2, 1) := by decide +kernel
theorem dX12_wrongKept_37 : decode cX12_wrongKept 37 = .ok (.if_icmp .ne 8, 3) := by decide +kernel
theorem dX12_wrongKept_40 : decode cX12_wrongKept 40 = .ok (.bipush (-12), 2) := by decide +kernel
theorem dX12_wrongKept_42 : decode cX12_wrongKept 42 = .ok (.goto 4, 3) := by decide +kernel
theorem dX12_wrongKept_45 : decode cX12_wrongKept 45 = .ok (.iconst 0, 1) := by decide +kernel
theorem dX12_wrongKept_46 : decode cX12_wrongKept 46 = .ok (.ireturn, 1) := by decide +kernel
theorem dX12_keep_0 : decode cX12_keep 0 = .ok (.aload_n 0, 1) := by decide +kernel
theorem dX12_keep_1 : decode cX12_keep 1 = .ok (.iconst 0, 1) := by decide +kernel
theorem dX12_keep_2 : decode cX12_keep 2 = .ok (.putfield 77, 3) := by decide +kernel
theorem dX12_keep_5 : decode cX12_keep 5 = .ok (.iload_n 1, 1) := by decide +kernel
theorem dX12_keep_6 : decode cX12_keep 6 = .ok (.i2l, 1) := by decide +kernel
theorem dX12_keep_7 : decode cX12_keep 7 = .ok (.lconst 0, 1) := by decide +kernel
theorem dX12_keep_8 : decode cX12_keep 8 = .ok (.ldc2_w 226, 3) := by decide +kernel
theorem dX12_keep_11 : decode cX12_keep 11 = .ok (.invokestatic 83, 3) := by decide +kernel
theorem dX12_keep_14 : decode cX12_keep 14 = .ok (.ifCond .eq 43, 3) := by decide +kernel
theorem dX12_keep_17 : decode cX12_keep 17 = .ok (.iload_n 2, 1) := by decide +kernel
theorem dX12_keep_18 : decode cX12_keep 18 = .ok (.i2l, 1) := by decide +kernel
theorem dX12_keep_19 : decode cX12_keep 19 = .ok (.lconst 0, 1) := by decide +kernel
theorem dX12_keep_20 : decode cX12_keep 20 = .ok (.lconst 1, 1) := by decide +kernel
theorem dX12_keep_21 : decode cX12_keep 21 = .ok (.invokestatic 83, 3) := by decide +kernel
theorem dX12_keep_24 : decode cX12_keep 24 = .ok (.ifCond .eq 33, 3) := by decide +kernel
theorem dX12_keep_27 : decode cX12_keep 27 = .ok (.iload_n 2, 1) := by decide +kernel
theorem dX12_keep_28 : decode cX12_keep 28 = .ok (.iconst 1, 1) := by decide +kernel
theorem dX12_keep_29 : decode cX12_keep 29 = .ok (.if_icmp .ne 30, 3) := by decide +kernel
theorem dX12_keep_32 : decode cX12_keep 32 = .ok (.iload_n 3, 1) := by decide +kernel
theorem dX12_keep_33 : decode cX12_keep 33 = .ok (.i2l, 1) := by decide +kernel
theorem dX12_keep_34 : decode cX12_keep 34 = .ok (.lconst 0, 1) := by decide +kernel
theorem dX12_keep_35 : decode cX12_keep 35 = .ok (.ldc2_w 226, 3) := by decide +kernel
theorem dX12_keep_38 : decode cX12_keep 38 = .ok (.invokestatic 83, 3) := by decide +kernel
theorem dX12_keep_41 : decode cX12_keep 41 = .ok (.ifCond .eq 16, 3) := by decide +kernel
theorem dX12_keep_44 : decode cX12_keep 44 = .ok (.iload 4, 2) := by decide +kernel
theorem dX12_keep_46 : decode cX12_keep 46 = .ok (.i2l, 1) := by decide +kernel
theorem dX12_keep_47 : decode cX12_keep 47 = .ok (.lconst 0, 1) := by decide +kernel
theorem dX12_keep_48 : decode cX12_keep 48 = .ok (.ldc2_w 317, 3) := by decide +kernel
theorem dX12_keep_51 : decode cX12_keep 51 = .ok (.invokestatic 83, 3) := by decide +kernel
theorem dX12_keep_54 : decode cX12_keep 54 = .ok (.ifCond .ne 5, 3) := by decide +kernel
theorem dX12_keep_57 : decode cX12_keep 57 = .ok (.iconst (-1), 1) := by decide +kernel
theorem dX12_keep_58 : decode cX12_keep 58 = .ok (.ireturn, 1) := by decide +kernel
theorem dX12_keep_59 : decode cX12_keep 59 = .ok (.aload_n 0, 1) := by decide +kernel
theorem dX12_keep_60 : decode cX12_keep 60 = .ok (.getfield 31, 3) := by decide +kernel
theorem dX12_keep_63 : decode cX12_keep 63 = .ok (.iload_n 1, 1) := by decide +kernel
theorem dX12_keep_64 : decode cX12_keep 64 = .ok (.iload_n 2, 1) := by decide +kernel
theorem dX12_keep_65 : decode cX12_keep 65 = .ok (.iastore, 1) := by decide +kernel
theorem dX12_keep_66 : decode cX12_keep 66 = .ok (.aload_n 0, 1) := by decide +kernel
theorem dX12_keep_67 : decode cX12_keep 67 = .ok (.getfield 34, 3) := by decide +kernel
theorem dX12_keep_70 : decode cX12_keep 70 = .ok (.iload_n 1, 1) := by decide +kernel
theorem dX12_keep_71 : decode cX12_keep 71 = .ok (.iload_n 2, 1) := by decide +kernel
theorem dX12_keep_72 : decode cX12_keep 72 = .ok (.iconst 1, 1) := by decide +kernel
theorem dX12_keep_73 : decode cX12_keep 73 = .ok (.if_icmp .ne 7, 3) := by decide +kernel
theorem dX12_keep_76 : decode cX12_keep 76 = .ok (.iload_n 3, 1) := by decide +kernel
theorem dX12_keep_77 : decode cX12_keep 77 = .ok (.goto 4, 3) := by decide +kernel
theorem dX12_keep_80 : decode cX12_keep 80 = .ok (.iconst 0, 1) := by decide +kernel
theorem dX12_keep_81 : decode cX12_keep 81 = .ok (.iastore, 1) := by decide +kernel
theorem dX12_keep_82 : decode cX12_keep 82 = .ok (.aload_n 0, 1) := by decide +kernel
theorem dX12_keep_83 : decode cX12_keep 83 = .ok (.getfield 37, 3) := by decide +kernel
theorem dX12_keep_86 : decode cX12_keep 86 = .ok (.iload_n 1, 1) := by decide +kernel
theorem dX12_keep_87 : decode cX12_keep 87 = .ok (.iload_n 2, 1) := by decide +kernel
theorem dX12_keep_88 : decode cX12_keep 88 = .ok (.iconst 1, 1) := by decide +kernel
theorem dX12_keep_89 : decode cX12_keep 89 = .ok (.if_icmp .ne 8, 3) := by decide +kernel
theorem dX12_keep_92 : decode cX12_keep 92 = .ok (.iload 4, 2) := by decide +kernel
theorem dX12_keep_94 : decode cX12_keep 94 = .ok (.goto 4, 3) := by decide +kernel
theorem dX12_keep_97 : decode cX12_keep 97 = .ok (.iconst 0, 1) := by decide +kernel
theorem dX12_keep_98 : decode cX12_keep 98 = .ok (.iastore, 1) := by decide +kernel
theorem dX12_keep_99 : decode cX12_keep 99 = .ok (.iconst 0, 1) := by decide +kernel
theorem dX12_keep_100 : decode cX12_keep 100 = .ok (.ireturn, 1) := by decide +kernel
theorem dX12_wrongRow_0 : decode cX12_wrongRow 0 = .ok (.iload_n 1, 1) := by decide +kernel
theorem dX12_wrongRow_1 : decode cX12_wrongRow 1 = .ok (.i2l, 1) := by decide +kernel
theorem dX12_wrongRow_2 : decode cX12_wrongRow 2 = .ok (.lconst 0, 1) := by decide +kernel
theorem dX12_wrongRow_3 : decode cX12_wrongRow 3 = .ok (.ldc2_w 226, 3) := by decide +kernel
theorem dX12_wrongRow_6 : decode cX12_wrongRow 6 = .ok (.invokestatic 83, 3) := by decide +kernel
theorem dX12_wrongRow_9 : decode cX12_wrongRow 9 = .ok (.ifCond .ne 7, 3) := by decide +kernel
theorem dX12_wrongRow_12 : decode cX12_wrongRow 12 = .ok (.iconst (-1), 1) := by decide +kernel
theorem dX12_wrongRow_13 : decode cX12_wrongRow 13 = .ok (.goto 33, 3) := by decide +kernel
theorem dX12_wrongRow_16 : decode cX12_wrongRow 16 = .ok (.aload_n 0, 1) := by decide +kernel
theorem dX12_wrongRow_17 : decode cX12_wrongRow 17 = .ok (.getfield 31, 3) := by decide +kernel
theorem dX12_wrongRow_20 : decode cX12_wrongRow 20 = .ok (.iload_n 1, 1) := by decide +kernel
theorem dX12_wrongRow_21 : decode cX12_wrongRow 21 = .ok (.iaload, 1) := by decide +kernel
theorem dX12_wrongRow_22 : decode cX12_wrongRow 22 = .ok (.ifCond .ne 8, 3) := by decide +kernel
theorem dX12_wrongRow_25 : decode cX12_wrongRow 25 = .ok (.bipush (-11), 2) := by decide +kernel
theorem dX12_wrongRow_27 : decode cX12_wrongRow 27 = .ok (.goto 19, 3) := by decide +kernel
theorem dX12_wrongRow_30 : decode cX12_wrongRow 30 = .ok (.aload_n 0, 1) := by decide +kernel
theorem dX12_wrongRow_31 : decode cX12_wrongRow 31 = .ok (.getfield 31, 3) := by decide +kernel
theorem dX12_wrongRow_34 : decode cX12_wrongRow 34 = .ok (.iload_n 1, 1) := by decide +kernel
theorem dX12_wrongRow_35 : decode cX12_wrongRow 35 = .ok (.iaload, 1) := by decide +kernel
theorem dX12_wrongRow_36 : decode cX12_wrongRow 36 = .ok (.iconst 2, 1) := by decide +kernel
theorem dX12_wrongRow_37 : decode cX12_wrongRow 37 = .ok (.if_icmp .eq 8, 3) := by decide +kernel
theorem dX12_wrongRow_40 : decode cX12_wrongRow 40 = .ok (.bipush (-12), 2) := by decide +kernel
theorem dX12_wrongRow_42 : decode cX12_wrongRow 42 = .ok (.goto 4, 3) := by decide +kernel
theorem dX12_wrongRow_45 : decode cX12_wrongRow 45 = .ok (.iconst 0, 1) := by decide +kernel
theorem dX12_wrongRow_46 : decode cX12_wrongRow 46 = .ok (.ireturn, 1) := by decide +kernel
theorem dX12_narrowed_0 : decode cX12_narrowed 0 = .ok (.iload_n 1, 1) := by decide +kernel
theorem dX12_narrowed_1 : decode cX12_narrowed 1 = .ok (.ifCond .ne 9, 3) := by decide +kernel
theorem dX12_narrowed_4 : decode cX12_narrowed 4 = .ok (.iload_n 0, 1) := by decide +kernel
theorem dX12_narrowed_5 : decode cX12_narrowed 5 = .ok (.i2b, 1) := by decide +kernel
theorem dX12_narrowed_6 : decode cX12_narrowed 6 = .ok (.i2l, 1) := by decide +kernel
theorem dX12_narrowed_7 : decode cX12_narrowed 7 = .ok (.goto 16, 3) := by decide +kernel
theorem dX12_narrowed_10 : decode cX12_narrowed 10 = .ok (.iload_n 1, 1) := by decide +kernel
theorem dX12_narrowed_11 : decode cX12_narrowed 11 = .ok (.iconst 1, 1) := by decide +kernel
theorem dX12_narrowed_12 : decode cX12_narrowed 12 = .ok (.if_icmp .ne 9, 3) := by decide +kernel
theorem dX12_narrowed_15 : decode cX12_narrowed 15 = .ok (.iload_n 0, 1) := by decide +kernel
theorem dX12_narrowed_16 : decode cX12_narrowed 16 = .ok (.i2s, 1) := by decide +kernel
theorem dX12_narrowed_17 : decode cX12_narrowed 17 = .ok (.i2l, 1) := by decide +kernel
theorem dX12_narrowed_18 : decode cX12_narrowed 18 = .ok (.goto 5, 3) := by decide +kernel
theorem dX12_narrowed_21 : decode cX12_narrowed 21 = .ok (.iload_n 0, 1) := by decide +kernel
theorem dX12_narrowed_22 : decode cX12_narrowed 22 = .ok (.i2l, 1) := by decide +kernel
theorem dX12_narrowed_23 : decode cX12_narrowed 23 = .ok (.lreturn, 1) := by decide +kernel
theorem dX12_row_0 : decode cX12_row 0 = .ok (.aload_n 0, 1) := by decide +kernel
theorem dX12_row_1 : decode cX12_row 1 = .ok (.iconst 0, 1) := by decide +kernel
theorem dX12_row_2 : decode cX12_row 2 = .ok (.putfield 77, 3) := by decide +kernel
theorem dX12_row_5 : decode cX12_row 5 = .ok (.iload_n 1, 1) := by decide +kernel
theorem dX12_row_6 : decode cX12_row 6 = .ok (.i2l, 1) := by decide +kernel
theorem dX12_row_7 : decode cX12_row 7 = .ok (.lconst 0, 1) := by decide +kernel
theorem dX12_row_8 : decode cX12_row 8 = .ok (.ldc2_w 226, 3) := by decide +kernel
theorem dX12_row_11 : decode cX12_row 11 = .ok (.invokestatic 83, 3) := by decide +kernel
theorem dX12_row_14 : decode cX12_row 14 = .ok (.ifCond .eq 21, 3) := by decide +kernel
theorem dX12_row_17 : decode cX12_row 17 = .ok (.iload_n 2, 1) := by decide +kernel
theorem dX12_row_18 : decode cX12_row 18 = .ok (.i2l, 1) := by decide +kernel
theorem dX12_row_19 : decode cX12_row 19 = .ok (.lconst 0, 1) := by decide +kernel
theorem dX12_row_20 : decode cX12_row 20 = .ok (.ldc2_w 221, 3) := by decide +kernel
theorem dX12_row_23 : decode cX12_row 23 = .ok (.invokestatic 83, 3) := by decide +kernel
theorem dX12_row_26 : decode cX12_row 26 = .ok (.ifCond .eq 9, 3) := by decide +kernel
theorem dX12_row_29 : decode cX12_row 29 = .ok (.iload_n 3, 1) := by decide +kernel
theorem dX12_row_30 : decode cX12_row 30 = .ok (.bipush 100, 2) := by decide +kernel
theorem dX12_row_32 : decode cX12_row 32 = .ok (.if_icmp .le 5, 3) := by decide +kernel
theorem dX12_row_35 : decode cX12_row 35 = .ok (.iconst (-1), 1) := by decide +kernel
theorem dX12_row_36 : decode cX12_row 36 = .ok (.ireturn, 1) := by decide +kernel
theorem dX12_row_37 : decode cX12_row 37 = .ok (.iload_n 3, 1) := by decide +kernel
theorem dX12_row_38 : decode cX12_row 38 = .ok (.ifCond .ge 6, 3) := by decide +kernel
theorem dX12_row_41 : decode cX12_row 41 = .ok (.bipush (-14), 2) := by decide +kernel
theorem dX12_row_43 : decode cX12_row 43 = .ok (.ireturn, 1) := by decide +kernel
theorem dX12_row_44 : decode cX12_row 44 = .ok (.aload_n 0, 1) := by decide +kernel
theorem dX12_row_45 : decode cX12_row 45 = .ok (.getfield 31, 3) := by decide +kernel
theorem dX12_row_48 : decode cX12_row 48 = .ok (.iload_n 1, 1) := by decide +kernel
theorem dX12_row_49 : decode cX12_row 49 = .ok (.iconst 2, 1) := by decide +kernel
theorem dX12_row_50 : decode cX12_row 50 = .ok (.iastore, 1) := by decide +kernel
theorem dX12_row_51 : decode cX12_row 51 = .ok (.aload_n 0, 1) := by decide +kernel
theorem dX12_row_52 : decode cX12_row 52 = .ok (.getfield 40, 3) := by decide +kernel
theorem dX12_row_55 : decode cX12_row 55 = .ok (.iload_n 1, 1) := by decide +kernel
theorem dX12_row_56 : decode cX12_row 56 = .ok (.iload_n 2, 1) := by decide +kernel
theorem dX12_row_57 : decode cX12_row 57 = .ok (.iastore, 1) := by decide +kernel
theorem dX12_row_58 : decode cX12_row 58 = .ok (.aload_n 0, 1) := by decide +kernel
theorem dX12_row_59 : decode cX12_row 59 = .ok (.getfield 43, 3) := by decide +kernel
theorem dX12_row_62 : decode cX12_row 62 = .ok (.iload_n 1, 1) := by decide +kernel
theorem dX12_row_63 : decode cX12_row 63 = .ok (.iload_n 3, 1) := by decide +kernel
theorem dX12_row_64 : decode cX12_row 64 = .ok (.iastore, 1) := by decide +kernel
theorem dX12_row_65 : decode cX12_row 65 = .ok (.iconst 0, 1) := by decide +kernel
theorem dX12_row_66 : decode cX12_row 66 = .ok (.istore 4, 2) := by decide +kernel
theorem dX12_row_68 : decode cX12_row 68 = .ok (.iload 4, 2) := by decide +kernel
theorem dX12_row_70 : decode cX12_row 70 = .ok (.bipush 100, 2) := by decide +kernel
theorem dX12_row_72 : decode cX12_row 72 = .ok (.if_icmp .ge 22, 3) := by decide +kernel
theorem dX12_row_75 : decode cX12_row 75 = .ok (.aload_n 0, 1) := by decide +kernel
theorem dX12_row_76 : decode cX12_row 76 = .ok (.getfield 46, 3) := by decide +kernel
theorem dX12_row_79 : decode cX12_row 79 = .ok (.bipush 100, 2) := by decide +kernel
theorem dX12_row_81 : decode cX12_row 81 = .ok (.iload_n 1, 1) := by decide +kernel
theorem dX12_row_82 : decode cX12_row 82 = .ok (.imul, 1) := by decide +kernel
theorem dX12_row_83 : decode cX12_row 83 = .ok (.iload 4, 2) := by decide +kernel
theorem dX12_row_85 : decode cX12_row 85 = .ok (.iadd, 1) := by decide +kernel
theorem dX12_row_86 : decode cX12_row 86 = .ok (.lconst 0, 1) := by decide +kernel
theorem dX12_row_87 : decode cX12_row 87 = .ok (.lastore, 1) := by decide +kernel
theorem dX12_row_88 : decode cX12_row 88 = .ok (.iinc 4 1, 3) := by decide +kernel
theorem dX12_row_91 : decode cX12_row 91 = .ok (.goto (-23), 3) := by decide +kernel
theorem dX12_row_94 : decode cX12_row 94 = .ok (.iconst 0, 1) := by decide +kernel
theorem dX12_row_95 : decode cX12_row 95 = .ok (.ireturn, 1) := by decide +kernel
theorem dX12_put_0 : decode cX12_put 0 = .ok (.aload_n 0, 1) := by decide +kernel
theorem dX12_put_1 : decode cX12_put 1 = .ok (.iconst 0, 1) := by decide +kernel
theorem dX12_put_2 : decode cX12_put 2 = .ok (.putfield 77, 3) := by decide +kernel
theorem dX12_put_5 : decode cX12_put 5 = .ok (.aload_n 0, 1) := by decide +kernel
theorem dX12_put_6 : decode cX12_put 6 = .ok (.iload_n 1, 1) := by decide +kernel
theorem dX12_put_7 : decode cX12_put 7 = .ok (.invokevirtual 187, 3) := by decide +kernel
theorem dX12_put_10 : decode cX12_put 10 = .ok (.istore 4, 2) := by decide +kernel
theorem dX12_put_12 : decode cX12_put 12 = .ok (.iload 4, 2) := by decide +kernel
theorem dX12_put_14 : decode cX12_put 14 = .ok (.ifCond .ge 6, 3) := by decide +kernel
theorem dX12_put_17 : decode cX12_put 17 = .ok (.iload 4, 2) := by decide +kernel
theorem dX12_put_19 : decode cX12_put 19 = .ok (.ireturn, 1) := by decide +kernel
theorem dX12_put_20 : decode cX12_put 20 = .ok (.iload_n 2, 1) := by decide +kernel
theorem dX12_put_21 : decode cX12_put 21 = .ok (.i2l, 1) := by decide +kernel
theorem dX12_put_22 : decode cX12_put 22 = .ok (.lconst 0, 1) := by decide +kernel
theorem dX12_put_23 : decode cX12_put 23 = .ok (.aload_n 0, 1) := by decide +kernel
theorem dX12_put_24 : decode cX12_put 24 = .ok (.getfield 43, 3) := by decide +kernel
theorem dX12_put_27 : decode cX12_put 27 = .ok (.iload_n 1, 1) := by decide +kernel
theorem dX12_put_28 : decode cX12_put 28 = .ok (.iaload, 1) := by decide +kernel
theorem dX12_put_29 : decode cX12_put 29 = .ok (.iconst 1, 1) := by decide +kernel
theorem dX12_put_30 : decode cX12_put 30 = .ok (.isub, 1) := by decide +kernel
theorem dX12_put_31 : decode cX12_put 31 = .ok (.i2l, 1) := by decide +kernel
theorem dX12_put_32 : decode cX12_put 32 = .ok (.invokestatic 83, 3) := by decide +kernel
theorem dX12_put_35 : decode cX12_put 35 = .ok (.ifCond .ne 6, 3) := by decide +kernel
theorem dX12_put_38 : decode cX12_put 38 = .ok (.bipush (-13), 2) := by decide +kernel
theorem dX12_put_40 : decode cX12_put 40 = .ok (.ireturn, 1) := by decide +kernel
theorem dX12_put_41 : decode cX12_put 41 = .ok (.aload_n 0, 1) := by decide +kernel
theorem dX12_put_42 : decode cX12_put 42 = .ok (.getfield 46, 3) := by decide +kernel
theorem dX12_put_45 : decode cX12_put 45 = .ok (.bipush 100, 2) := by decide +kernel
theorem dX12_put_47 : decode cX12_put 47 = .ok (.iload_n 1, 1) := by decide +kernel
theorem dX12_put_48 : decode cX12_put 48 = .ok (.imul, 1) := by decide +kernel
theorem dX12_put_49 : decode cX12_put 49 = .ok (.iload_n 2, 1) := by decide +kernel
theorem dX12_put_50 : decode cX12_put 50 = .ok (.iadd, 1) := by decide +kernel
theorem dX12_put_51 : decode cX12_put 51 = .ok (.iload_n 3, 1) := by decide +kernel
theorem dX12_put_52 : decode cX12_put 52 = .ok (.aload_n 0, 1) := by decide +kernel
theorem dX12_put_53 : decode cX12_put 53 = .ok (.getfield 40, 3) := by decide +kernel
theorem dX12_put_56 : decode cX12_put 56 = .ok (.iload_n 1, 1) := by decide +kernel
theorem dX12_put_57 : decode cX12_put 57 = .ok (.iaload, 1) := by decide +kernel
theorem dX12_put_58 : decode cX12_put 58 = .ok (.invokestatic 319, 3) := by decide +kernel
theorem dX12_put_61 : decode cX12_put 61 = .ok (.lastore, 1) := by decide +kernel
theorem dX12_put_62 : decode cX12_put 62 = .ok (.iconst 0, 1) := by decide +kernel
theorem dX12_put_63 : decode cX12_put 63 = .ok (.ireturn, 1) := by decide +kernel
theorem dX12_element_0 : decode cX12_element 0 = .ok (.aload_n 0, 1) := by decide +kernel
theorem dX12_element_1 : decode cX12_element 1 = .ok (.iload_n 1, 1) := by decide +kernel
theorem dX12_element_2 : decode cX12_element 2 = .ok (.invokevirtual 187, 3) := by decide +kernel
theorem dX12_element_5 : decode cX12_element 5 = .ok (.istore_n 3, 1) := by decide +kernel
theorem dX12_element_6 : decode cX12_element 6 = .ok (.aload_n 0, 1) := by decide +kernel
theorem dX12_element_7 : decode cX12_element 7 = .ok (.iload_n 3, 1) := by decide +kernel
theorem dX12_element_8 : decode cX12_element 8 = .ok (.iconst (-1), 1) := by decide +kernel
theorem dX12_element_9 : decode cX12_element 9 = .ok (.if_icmp .ne 7, 3) := by decide +kernel
theorem dX12_element_12 : decode cX12_element 12 = .ok (.iconst 1, 1) := by decide +kernel
theorem dX12_element_13 : decode cX12_element 13 = .ok (.goto 30, 3) := by decide +kernel
theorem dX12_element_16 : decode cX12_element 16 = .ok (.iload_n 3, 1) := by decide +kernel
theorem dX12_element_17 : decode cX12_element 17 = .ok (.ifCond .lt 21, 3) := by decide +kernel
theorem dX12_element_20 : decode cX12_element 20 = .ok (.iload_n 2, 1) := by decide +kernel
theorem dX12_element_21 : decode cX12_element 21 = .ok (.i2l, 1) := by decide +kernel
theorem dX12_element_22 : decode cX12_element 22 = .ok (.lconst 0, 1) := by decide +kernel
theorem dX12_element_23 : decode cX12_element 23 = .ok (.aload_n 0, 1) := by decide +kernel
theorem dX12_element_24 : decode cX12_element 24 = .ok (.getfield 43, 3) := by decide +kernel
theorem dX12_element_27 : decode cX12_element 27 = .ok (.iload_n 1, 1) := by decide +kernel
theorem dX12_element_28 : decode cX12_element 28 = .ok (.iaload, 1) := by decide +kernel
theorem dX12_element_29 : decode cX12_element 29 = .ok (.iconst 1, 1) := by decide +kernel
theorem dX12_element_30 : decode cX12_element 30 = .ok (.isub, 1) := by decide +kernel
theorem dX12_element_31 : decode cX12_element 31 = .ok (.i2l, 1) := by decide +kernel
theorem dX12_element_32 : decode cX12_element 32 = .ok (.invokestatic 83, 3) := by decide +kernel
theorem dX12_element_35 : decode cX12_element 35 = .ok (.ifCond .ne 7, 3) := by decide +kernel
theorem dX12_element_38 : decode cX12_element 38 = .ok (.iconst 2, 1) := by decide +kernel
theorem dX12_element_39 : decode cX12_element 39 = .ok (.goto 4, 3) := by decide +kernel
theorem dX12_element_42 : decode cX12_element 42 = .ok (.iconst 0, 1) := by decide +kernel
theorem dX12_element_43 : decode cX12_element 43 = .ok (.putfield 77, 3) := by decide +kernel
theorem dX12_element_46 : decode cX12_element 46 = .ok (.aload_n 0, 1) := by decide +kernel
theorem dX12_element_47 : decode cX12_element 47 = .ok (.getfield 77, 3) := by decide +kernel
theorem dX12_element_50 : decode cX12_element 50 = .ok (.ifCond .le 7, 3) := by decide +kernel
theorem dX12_element_53 : decode cX12_element 53 = .ok (.lconst 0, 1) := by decide +kernel
theorem dX12_element_54 : decode cX12_element 54 = .ok (.goto 14, 3) := by decide +kernel
theorem dX12_element_57 : decode cX12_element 57 = .ok (.aload_n 0, 1) := by decide +kernel
theorem dX12_element_58 : decode cX12_element 58 = .ok (.getfield 46, 3) := by decide +kernel
theorem dX12_element_61 : decode cX12_element 61 = .ok (.bipush 100, 2) := by decide +kernel
theorem dX12_element_63 : decode cX12_element 63 = .ok (.iload_n 1, 1) := by decide +kernel
theorem dX12_element_64 : decode cX12_element 64 = .ok (.imul, 1) := by decide +kernel
theorem dX12_element_65 : decode cX12_element 65 = .ok (.iload_n 2, 1) := by decide +kernel
theorem dX12_element_66 : decode cX12_element 66 = .ok (.iadd, 1) := by decide +kernel
theorem dX12_element_67 : decode cX12_element 67 = .ok (.laload, 1) := by decide +kernel
theorem dX12_element_68 : decode cX12_element 68 = .ok (.lreturn, 1) := by decide +kernel
theorem dX12_copy_0 : decode cX12_copy 0 = .ok (.aload_n 0, 1) := by decide +kernel
theorem dX12_copy_1 : decode cX12_copy 1 = .ok (.iconst 0, 1) := by decide +kernel
theorem dX12_copy_2 : decode cX12_copy 2 = .ok (.putfield 77, 3) := by decide +kernel
theorem dX12_copy_5 : decode cX12_copy 5 = .ok (.iload_n 1, 1) := by decide +kernel
theorem dX12_copy_6 : decode cX12_copy 6 = .ok (.i2l, 1) := by decide +kernel
theorem dX12_copy_7 : decode cX12_copy 7 = .ok (.lconst 0, 1) := by decide +kernel
theorem dX12_copy_8 : decode cX12_copy 8 = .ok (.ldc2_w 226, 3) := by decide +kernel
theorem dX12_copy_11 : decode cX12_copy 11 = .ok (.invokestatic 83, 3) := by decide +kernel
theorem dX12_copy_14 : decode cX12_copy 14 = .ok (.ifCond .eq 15, 3) := by decide +kernel
theorem dX12_copy_17 : decode cX12_copy 17 = .ok (.iload_n 3, 1) := by decide +kernel
theorem dX12_copy_18 : decode cX12_copy 18 = .ok (.i2l, 1) := by decide +kernel
theorem dX12_copy_19 : decode cX12_copy 19 = .ok (.lconst 0, 1) := by decide +kernel
theorem dX12_copy_20 : decode cX12_copy 20 = .ok (.ldc2_w 226, 3) := by decide +kernel
theorem dX12_copy_23 : decode cX12_copy 23 = .ok (.invokestatic 83, 3) := by decide +kernel
theorem dX12_copy_26 : decode cX12_copy 26 = .ok (.ifCond .ne 5, 3) := by decide +kernel
theorem dX12_copy_29 : decode cX12_copy 29 = .ok (.iconst (-1), 1) := by decide +kernel
theorem dX12_copy_30 : decode cX12_copy 30 = .ok (.ireturn, 1) := by decide +kernel
theorem dX12_copy_31 : decode cX12_copy 31 = .ok (.aload_n 0, 1) := by decide +kernel
theorem dX12_copy_32 : decode cX12_copy 32 = .ok (.getfield 31, 3) := by decide +kernel
theorem dX12_copy_35 : decode cX12_copy 35 = .ok (.iload_n 1, 1) := by decide +kernel
theorem dX12_copy_36 : decode cX12_copy 36 = .ok (.iaload, 1) := by decide +kernel
theorem dX12_copy_37 : decode cX12_copy 37 = .ok (.ifCond .eq 12, 3) := by decide +kernel
theorem dX12_copy_40 : decode cX12_copy 40 = .ok (.aload_n 0, 1) := by decide +kernel
theorem dX12_copy_41 : decode cX12_copy 41 = .ok (.getfield 31, 3) := by decide +kernel
theorem dX12_copy_44 : decode cX12_copy 44 = .ok (.iload_n 3, 1) := by decide +kernel
theorem dX12_copy_45 : decode cX12_copy 45 = .ok (.iaload, 1) := by decide +kernel
theorem dX12_copy_46 : decode cX12_copy 46 = .ok (.ifCond .ne 6, 3) := by decide +kernel
theorem dX12_copy_49 : decode cX12_copy 49 = .ok (.bipush (-11), 2) := by decide +kernel
theorem dX12_copy_51 : decode cX12_copy 51 = .ok (.ireturn, 1) := by decide +kernel
theorem dX12_copy_52 : decode cX12_copy 52 = .ok (.aload_n 0, 1) := by decide +kernel
theorem dX12_copy_53 : decode cX12_copy 53 = .ok (.getfield 31, 3) := by decide +kernel
theorem dX12_copy_56 : decode cX12_copy 56 = .ok (.iload_n 1, 1) := by decide +kernel
theorem dX12_copy_57 : decode cX12_copy 57 = .ok (.iaload, 1) := by decide +kernel
theorem dX12_copy_58 : decode cX12_copy 58 = .ok (.iconst 2, 1) := by decide +kernel
theorem dX12_copy_59 : decode cX12_copy 59 = .ok (.if_icmp .ne 28, 3) := by decide +kernel
theorem dX12_copy_62 : decode cX12_copy 62 = .ok (.aload_n 0, 1) := by decide +kernel
theorem dX12_copy_63 : decode cX12_copy 63 = .ok (.getfield 31, 3) := by decide +kernel
theorem dX12_copy_66 : decode cX12_copy 66 = .ok (.iload_n 3, 1) := by decide +kernel
theorem dX12_copy_67 : decode cX12_copy 67 = .ok (.iaload, 1) := by decide +kernel
theorem dX12_copy_68 : decode cX12_copy 68 = .ok (.iconst 2, 1) := by decide +kernel
theorem dX12_copy_69 : decode cX12_copy 69 = .ok (.if_icmp .ne 18, 3) := by decide +kernel
theorem dX12_copy_72 : decode cX12_copy 72 = .ok (.aload_n 0, 1) := by decide +kernel
theorem dX12_copy_73 : decode cX12_copy 73 = .ok (.getfield 40, 3) := by decide +kernel
theorem dX12_copy_76 : decode cX12_copy 76 = .ok (.iload_n 1, 1) := by decide +kernel
theorem dX12_copy_77 : decode cX12_copy 77 = .ok (.iaload, 1) := by decide +kernel
theorem dX12_copy_78 : decode cX12_copy 78 = .ok (.aload_n 0, 1) := by decide +kernel
theorem dX12_copy_79 : decode cX12_copy 79 = .ok (.getfield 40, 3) := by decide +kernel
theorem dX12_copy_82 : decode cX12_copy 82 = .ok (.iload_n 3, 1) := by decide +kernel
theorem dX12_copy_83 : decode cX12_copy 83 = .ok (.iaload, 1) := by decide +kernel
theorem dX12_copy_84 : decode cX12_copy 84 = .ok (.if_icmp .eq 6, 3) := by decide +kernel
theorem dX12_copy_87 : decode cX12_copy 87 = .ok (.bipush (-12), 2) := by decide +kernel
theorem dX12_copy_89 : decode cX12_copy 89 = .ok (.ireturn, 1) := by decide +kernel
theorem dX12_copy_90 : decode cX12_copy 90 = .ok (.iload 5, 2) := by decide +kernel
theorem dX12_copy_92 : decode cX12_copy 92 = .ok (.ifCond .lt 39, 3) := by decide +kernel
theorem dX12_copy_95 : decode cX12_copy 95 = .ok (.iload_n 2, 1) := by decide +kernel
theorem dX12_copy_96 : decode cX12_copy 96 = .ok (.ifCond .lt 35, 3) := by decide +kernel
theorem dX12_copy_99 : decode cX12_copy 99 = .ok (.iload 4, 2) := by decide +kernel
theorem dX12_copy_101 : decode cX12_copy 101 = .ok (.ifCond .lt 30, 3) := by decide +kernel
theorem dX12_copy_104 : decode cX12_copy 104 = .ok (.iload_n 2, 1) := by decide +kernel
theorem dX12_copy_105 : decode cX12_copy 105 = .ok (.aload_n 0, 1) := by decide +kernel
theorem dX12_copy_106 : decode cX12_copy 106 = .ok (.getfield 43, 3) := by decide +kernel
theorem dX12_copy_109 : decode cX12_copy 109 = .ok (.iload_n 1, 1) := by decide +kernel
theorem dX12_copy_110 : decode cX12_copy 110 = .ok (.iaload, 1) := by decide +kernel
theorem dX12_copy_111 : decode cX12_copy 111 = .ok (.iload 5, 2) := by decide +kernel
theorem dX12_copy_113 : decode cX12_copy 113 = .ok (.isub, 1) := by decide +kernel
theorem dX12_copy_114 : decode cX12_copy 114 = .ok (.if_icmp .gt 17, 3) := by decide +kernel
theorem dX12_copy_117 : decode cX12_copy 117 = .ok (.iload 4, 2) := by decide +kernel
theorem dX12_copy_119 : decode cX12_copy 119 = .ok (.aload_n 0, 1) := by decide +kernel
theorem dX12_copy_120 : decode cX12_copy 120 = .ok (.getfield 43, 3) := by decide +kernel
theorem dX12_copy_123 : decode cX12_copy 123 = .ok (.iload_n 3, 1) := by decide +kernel
theorem dX12_copy_124 : decode cX12_copy 124 = .ok (.iaload, 1) := by decide +kernel
theorem dX12_copy_125 : decode cX12_copy 125 = .ok (.iload 5, 2) := by decide +kernel
theorem dX12_copy_127 : decode cX12_copy 127 = .ok (.isub, 1) := by decide +kernel
theorem dX12_copy_128 : decode cX12_copy 128 = .ok (.if_icmp .le 6, 3) := by decide +kernel
theorem dX12_copy_131 : decode cX12_copy 131 = .ok (.bipush (-13), 2) := by decide +kernel
theorem dX12_copy_133 : decode cX12_copy 133 = .ok (.ireturn, 1) := by decide +kernel
theorem dX12_copy_134 : decode cX12_copy 134 = .ok (.iconst 0, 1) := by decide +kernel
theorem dX12_copy_135 : decode cX12_copy 135 = .ok (.istore 6, 2) := by decide +kernel
theorem dX12_copy_137 : decode cX12_copy 137 = .ok (.iload 6, 2) := by decide +kernel
theorem dX12_copy_139 : decode cX12_copy 139 = .ok (.iload 5, 2) := by decide +kernel
theorem dX12_copy_141 : decode cX12_copy 141 = .ok (.if_icmp .ge 30, 3) := by decide +kernel
theorem dX12_copy_144 : decode cX12_copy 144 = .ok (.aload_n 0, 1) := by decide +kernel
theorem dX12_copy_145 : decode cX12_copy 145 = .ok (.getfield 74, 3) := by decide +kernel
theorem dX12_copy_148 : decode cX12_copy 148 = .ok (.iload 6, 2) := by decide +kernel
theorem dX12_copy_150 : decode cX12_copy 150 = .ok (.aload_n 0, 1) := by decide +kernel
theorem dX12_copy_151 : decode cX12_copy 151 = .ok (.getfield 46, 3) := by decide +kernel
theorem dX12_copy_154 : decode cX12_copy 154 = .ok (.bipush 100, 2) := by decide +kernel
theorem dX12_copy_156 : decode cX12_copy 156 = .ok (.iload_n 1, 1) := by decide +kernel
theorem dX12_copy_157 : decode cX12_copy 157 = .ok (.imul, 1) := by decide +kernel
theorem dX12_copy_158 : decode cX12_copy 158 = .ok (.iload_n 2, 1) := by decide +kernel
theorem dX12_copy_159 : decode cX12_copy 159 = .ok (.iadd, 1) := by decide +kernel
theorem dX12_copy_160 : decode cX12_copy 160 = .ok (.iload 6, 2) := by decide +kernel
theorem dX12_copy_162 : decode cX12_copy 162 = .ok (.iadd, 1) := by decide +kernel
theorem dX12_copy_163 : decode cX12_copy 163 = .ok (.laload, 1) := by decide +kernel
theorem dX12_copy_164 : decode cX12_copy 164 = .ok (.lastore, 1) := by decide +kernel
theorem dX12_copy_165 : decode cX12_copy 165 = .ok (.iinc 6 1, 3) := by decide +kernel
theorem dX12_copy_168 : decode cX12_copy 168 = .ok (.goto (-31), 3) := by decide +kernel
theorem dX12_copy_171 : decode cX12_copy 171 = .ok (.iconst 0, 1) := by decide +kernel
theorem dX12_copy_172 : decode cX12_copy 172 = .ok (.istore 6, 2) := by decide +kernel
theorem dX12_copy_174 : decode cX12_copy 174 = .ok (.iload 6, 2) := by decide +kernel
theorem dX12_copy_176 : decode cX12_copy 176 = .ok (.iload 5, 2) := by decide +kernel
theorem dX12_copy_178 : decode cX12_copy 178 = .ok (.if_icmp .ge 31, 3) := by decide +kernel
theorem dX12_copy_181 : decode cX12_copy 181 = .ok (.aload_n 0, 1) := by decide +kernel
theorem dX12_copy_182 : decode cX12_copy 182 = .ok (.getfield 46, 3) := by decide +kernel
theorem dX12_copy_185 : decode cX12_copy 185 = .ok (.bipush 100, 2) := by decide +kernel
theorem dX12_copy_187 : decode cX12_copy 187 = .ok (.iload_n 3, 1) := by decide +kernel
theorem dX12_copy_188 : decode cX12_copy 188 = .ok (.imul, 1) := by decide +kernel
theorem dX12_copy_189 : decode cX12_copy 189 = .ok (.iload 4, 2) := by decide +kernel
theorem dX12_copy_191 : decode cX12_copy 191 = .ok (.iadd, 1) := by decide +kernel
theorem dX12_copy_192 : decode cX12_copy 192 = .ok (.iload 6, 2) := by decide +kernel
theorem dX12_copy_194 : decode cX12_copy 194 = .ok (.iadd, 1) := by decide +kernel
theorem dX12_copy_195 : decode cX12_copy 195 = .ok (.aload_n 0, 1) := by decide +kernel
theorem dX12_copy_196 : decode cX12_copy 196 = .ok (.getfield 74, 3) := by decide +kernel
theorem dX12_copy_199 : decode cX12_copy 199 = .ok (.iload 6, 2) := by decide +kernel
theorem dX12_copy_201 : decode cX12_copy 201 = .ok (.laload, 1) := by decide +kernel
theorem dX12_copy_202 : decode cX12_copy 202 = .ok (.lastore, 1) := by decide +kernel
theorem dX12_copy_203 : decode cX12_copy 203 = .ok (.iinc 6 1, 3) := by decide +kernel
theorem dX12_copy_206 : decode cX12_copy 206 = .ok (.goto (-32), 3) := by decide +kernel
theorem dX12_copy_209 : decode cX12_copy 209 = .ok (.iload 5, 2) := by decide +kernel
theorem dX12_copy_211 : decode cX12_copy 211 = .ok (.ireturn, 1) := by decide +kernel
theorem dX12_costOf_0 : decode cX12_costOf 0 = .ok (.iload_n 0, 1) := by decide +kernel
theorem dX12_costOf_1 : decode cX12_costOf 1 = .ok (.tableswitch 64 0 6 #[43, 45, 47, 51, 53, 56, 62], 43) := by decide +kernel
theorem dX12_costOf_44 : decode cX12_costOf 44 = .ok (.iconst 2, 1) := by decide +kernel
theorem dX12_costOf_45 : decode cX12_costOf 45 = .ok (.ireturn, 1) := by decide +kernel
theorem dX12_costOf_46 : decode cX12_costOf 46 = .ok (.iconst 1, 1) := by decide +kernel
theorem dX12_costOf_47 : decode cX12_costOf 47 = .ok (.ireturn, 1) := by decide +kernel
theorem dX12_costOf_48 : decode cX12_costOf 48 = .ok (.iconst 2, 1) := by decide +kernel
theorem dX12_costOf_49 : decode cX12_costOf 49 = .ok (.iload_n 1, 1) := by decide +kernel
theorem dX12_costOf_50 : decode cX12_costOf 50 = .ok (.iadd, 1) := by decide +kernel
theorem dX12_costOf_51 : decode cX12_costOf 51 = .ok (.ireturn, 1) := by decide +kernel
theorem dX12_costOf_52 : decode cX12_costOf 52 = .ok (.iconst 3, 1) := by decide +kernel
theorem dX12_costOf_53 : decode cX12_costOf 53 = .ok (.ireturn, 1) := by decide +kernel
theorem dX12_costOf_54 : decode cX12_costOf 54 = .ok (.bipush 7, 2) := by decide +kernel
theorem dX12_costOf_56 : decode cX12_costOf 56 = .ok (.ireturn, 1) := by decide +kernel
theorem dX12_costOf_57 : decode cX12_costOf 57 = .ok (.iconst 2, 1) := by decide +kernel
theorem dX12_costOf_58 : decode cX12_costOf 58 = .ok (.iconst 2, 1) := by decide +kernel
theorem dX12_costOf_59 : decode cX12_costOf 59 = .ok (.iload_n 1, 1) := by decide +kernel
theorem dX12_costOf_60 : decode cX12_costOf 60 = .ok (.iadd, 1) := by decide +kernel
theorem dX12_costOf_61 : decode cX12_costOf 61 = .ok (.imul, 1) := by decide +kernel
theorem dX12_costOf_62 : decode cX12_costOf 62 = .ok (.ireturn, 1) := by decide +kernel
theorem dX12_costOf_63 : decode cX12_costOf 63 = .ok (.iconst 0, 1) := by decide +kernel
theorem dX12_costOf_64 : decode cX12_costOf 64 = .ok (.ireturn, 1) := by decide +kernel
theorem dX12_costOf_65 : decode cX12_costOf 65 = .ok (.iconst 1, 1) := by decide +kernel
theorem dX12_costOf_66 : decode cX12_costOf 66 = .ok (.ireturn, 1) := by decide +kernel
theorem dX12_cost_0 : decode cX12_cost 0 = .ok (.aload_n 0, 1) := by decide +kernel
theorem dX12_cost_1 : decode cX12_cost 1 = .ok (.iconst 0, 1) := by decide +kernel
theorem dX12_cost_2 : decode cX12_cost 2 = .ok (.putfield 77, 3) := by decide +kernel
theorem dX12_cost_5 : decode cX12_cost 5 = .ok (.aload_n 0, 1) := by decide +kernel
theorem dX12_cost_6 : decode cX12_cost 6 = .ok (.iload_n 1, 1) := by decide +kernel
theorem dX12_cost_7 : decode cX12_cost 7 = .ok (.invokevirtual 228, 3) := by decide +kernel
theorem dX12_cost_10 : decode cX12_cost 10 = .ok (.ifCond .ge 11, 3) := by decide +kernel
theorem dX12_cost_13 : decode cX12_cost 13 = .ok (.aload_n 0, 1) := by decide +kernel
theorem dX12_cost_14 : decode cX12_cost 14 = .ok (.iload_n 1, 1) := by decide +kernel
theorem dX12_cost_15 : decode cX12_cost 15 = .ok (.invokevirtual 228, 3) := by decide +kernel
theorem dX12_cost_18 : decode cX12_cost 18 = .ok (.goto 18, 3) := by decide +kernel
theorem dX12_cost_21 : decode cX12_cost 21 = .ok (.aload_n 0, 1) := by decide +kernel
theorem dX12_cost_22 : decode cX12_cost 22 = .ok (.getfield 34, 3) := by decide +kernel
theorem dX12_cost_25 : decode cX12_cost 25 = .ok (.iload_n 1, 1) := by decide +kernel
theorem dX12_cost_26 : decode cX12_cost 26 = .ok (.iaload, 1) := by decide +kernel
theorem dX12_cost_27 : decode cX12_cost 27 = .ok (.aload_n 0, 1) := by decide +kernel
theorem dX12_cost_28 : decode cX12_cost 28 = .ok (.getfield 37, 3) := by decide +kernel
theorem dX12_cost_31 : decode cX12_cost 31 = .ok (.iload_n 1, 1) := by decide +kernel
theorem dX12_cost_32 : decode cX12_cost 32 = .ok (.iaload, 1) := by decide +kernel
theorem dX12_cost_33 : decode cX12_cost 33 = .ok (.invokestatic 323, 3) := by decide +kernel
theorem dX12_cost_36 : decode cX12_cost 36 = .ok (.ireturn, 1) := by decide +kernel
theorem dX12_toss_0 : decode cX12_toss 0 = .ok (.aload_n 0, 1) := by decide +kernel
theorem dX12_toss_1 : decode cX12_toss 1 = .ok (.iconst 0, 1) := by decide +kernel
theorem dX12_toss_2 : decode cX12_toss 2 = .ok (.putfield 77, 3) := by decide +kernel
theorem dX12_toss_5 : decode cX12_toss 5 = .ok (.aload_n 0, 1) := by decide +kernel
theorem dX12_toss_6 : decode cX12_toss 6 = .ok (.iload_n 1, 1) := by decide +kernel
theorem dX12_toss_7 : decode cX12_toss 7 = .ok (.invokevirtual 228, 3) := by decide +kernel
theorem dX12_toss_10 : decode cX12_toss 10 = .ok (.ifCond .ge 9, 3) := by decide +kernel
theorem dX12_toss_13 : decode cX12_toss 13 = .ok (.aload_n 0, 1) := by decide +kernel
theorem dX12_toss_14 : decode cX12_toss 14 = .ok (.iload_n 1, 1) := by decide +kernel
theorem dX12_toss_15 : decode cX12_toss 15 = .ok (.invokevirtual 228, 3) := by decide +kernel
theorem dX12_toss_18 : decode cX12_toss 18 = .ok (.ireturn, 1) := by decide +kernel
theorem dX12_toss_19 : decode cX12_toss 19 = .ok (.aload_n 0, 1) := by decide +kernel
theorem dX12_toss_20 : decode cX12_toss 20 = .ok (.getfield 34, 3) := by decide +kernel
theorem dX12_toss_23 : decode cX12_toss 23 = .ok (.iload_n 1, 1) := by decide +kernel
theorem dX12_toss_24 : decode cX12_toss 24 = .ok (.iaload, 1) := by decide +kernel
theorem dX12_toss_25 : decode cX12_toss 25 = .ok (.istore_n 2, 1) := by decide +kernel
theorem dX12_toss_26 : decode cX12_toss 26 = .ok (.aload_n 0, 1) := by decide +kernel
theorem dX12_toss_27 : decode cX12_toss 27 = .ok (.getfield 37, 3) := by decide +kernel
theorem dX12_toss_30 : decode cX12_toss 30 = .ok (.iload_n 1, 1) := by decide +kernel
theorem dX12_toss_31 : decode cX12_toss 31 = .ok (.iaload, 1) := by decide +kernel
theorem dX12_toss_32 : decode cX12_toss 32 = .ok (.istore_n 3, 1) := by decide +kernel
theorem dX12_toss_33 : decode cX12_toss 33 = .ok (.iload_n 2, 1) := by decide +kernel
theorem dX12_toss_34 : decode cX12_toss 34 = .ok (.iconst 1, 1) := by decide +kernel
theorem dX12_toss_35 : decode cX12_toss 35 = .ok (.if_icmp .eq 18, 3) := by decide +kernel
theorem dX12_toss_38 : decode cX12_toss 38 = .ok (.iload_n 2, 1) := by decide +kernel
theorem dX12_toss_39 : decode cX12_toss 39 = .ok (.iconst 4, 1) := by decide +kernel
theorem dX12_toss_40 : decode cX12_toss 40 = .ok (.if_icmp .eq 13, 3) := by decide +kernel
theorem dX12_toss_43 : decode cX12_toss 43 = .ok (.iload_n 2, 1) := by decide +kernel
theorem dX12_toss_44 : decode cX12_toss 44 = .ok (.bipush 7, 2) := by decide +kernel
theorem dX12_toss_46 : decode cX12_toss 46 = .ok (.if_icmp .eq 7, 3) := by decide +kernel
theorem dX12_toss_49 : decode cX12_toss 49 = .ok (.iload_n 3, 1) := by decide +kernel
theorem dX12_toss_50 : decode cX12_toss 50 = .ok (.ifCond .ne 6, 3) := by decide +kernel
theorem dX12_toss_53 : decode cX12_toss 53 = .ok (.bipush (-15), 2) := by decide +kernel
theorem dX12_toss_55 : decode cX12_toss 55 = .ok (.ireturn, 1) := by decide +kernel
theorem dX12_toss_56 : decode cX12_toss 56 = .ok (.iload_n 2, 1) := by decide +kernel
theorem dX12_toss_57 : decode cX12_toss 57 = .ok (.iconst 2, 1) := by decide +kernel
theorem dX12_toss_58 : decode cX12_toss 58 = .ok (.if_icmp .eq 8, 3) := by decide +kernel
theorem dX12_toss_61 : decode cX12_toss 61 = .ok (.iload_n 2, 1) := by decide +kernel
theorem dX12_toss_62 : decode cX12_toss 62 = .ok (.iconst 5, 1) := by decide +kernel
theorem dX12_toss_63 : decode cX12_toss 63 = .ok (.if_icmp .ne 10, 3) := by decide +kernel
theorem dX12_toss_66 : decode cX12_toss 66 = .ok (.bipush 100, 2) := by decide +kernel
theorem dX12_toss_68 : decode cX12_toss 68 = .ok (.iload_n 3, 1) := by decide +kernel
theorem dX12_toss_69 : decode cX12_toss 69 = .ok (.iadd, 1) := by decide +kernel
theorem dX12_toss_70 : decode cX12_toss 70 = .ok (.goto 20, 3) := by decide +kernel
theorem dX12_toss_73 : decode cX12_toss 73 = .ok (.iload_n 2, 1) := by decide +kernel
theorem dX12_toss_74 : decode cX12_toss 74 = .ok (.bipush 6, 2) := by decide +kernel
theorem dX12_toss_76 : decode cX12_toss 76 = .ok (.if_icmp .ne 13, 3) := by decide +kernel
theorem dX12_toss_79 : decode cX12_toss 79 = .ok (.sipush 200, 3) := by decide +kernel
theorem dX12_toss_82 : decode cX12_toss 82 = .ok (.iconst 2, 1) := by decide +kernel
theorem dX12_toss_83 : decode cX12_toss 83 = .ok (.iload_n 3, 1) := by decide +kernel
theorem dX12_toss_84 : decode cX12_toss 84 = .ok (.imul, 1) := by decide +kernel
theorem dX12_toss_85 : decode cX12_toss 85 = .ok (.iadd, 1) := by decide +kernel
theorem dX12_toss_86 : decode cX12_toss 86 = .ok (.goto 4, 3) := by decide +kernel
theorem dX12_toss_89 : decode cX12_toss 89 = .ok (.iload_n 3, 1) := by decide +kernel
theorem dX12_toss_90 : decode cX12_toss 90 = .ok (.ireturn, 1) := by decide +kernel
theorem dJ6_bitCount_0f7a4_0 : decode cJ6_bitCount_0f7a4 0 = .ok (.iload_n 0, 1) := by decide +kernel
theorem dJ6_bitCount_0f7a4_1 : decode cJ6_bitCount_0f7a4 1 = .ok (.iload_n 0, 1) := by decide +kernel
theorem dJ6_bitCount_0f7a4_2 : decode cJ6_bitCount_0f7a4 2 = .ok (.iconst 1, 1) := by decide +kernel
theorem dJ6_bitCount_0f7a4_3 : decode cJ6_bitCount_0f7a4 3 = .ok (.iushr, 1) := by decide +kernel
theorem dJ6_bitCount_0f7a4_4 : decode cJ6_bitCount_0f7a4 4 = .ok (.ldc_w 265, 3) := by decide +kernel
theorem dJ6_bitCount_0f7a4_7 : decode cJ6_bitCount_0f7a4 7 = .ok (.iand, 1) := by decide +kernel
theorem dJ6_bitCount_0f7a4_8 : decode cJ6_bitCount_0f7a4 8 = .ok (.isub, 1) := by decide +kernel
theorem dJ6_bitCount_0f7a4_9 : decode cJ6_bitCount_0f7a4 9 = .ok (.istore_n 0, 1) := by decide +kernel
theorem dJ6_bitCount_0f7a4_10 : decode cJ6_bitCount_0f7a4 10 = .ok (.iload_n 0, 1) := by decide +kernel
theorem dJ6_bitCount_0f7a4_11 : decode cJ6_bitCount_0f7a4 11 = .ok (.ldc_w 266, 3) := by decide +kernel
theorem dJ6_bitCount_0f7a4_14 : decode cJ6_bitCount_0f7a4 14 = .ok (.iand, 1) := by decide +kernel
theorem dJ6_bitCount_0f7a4_15 : decode cJ6_bitCount_0f7a4 15 = .ok (.iload_n 0, 1) := by decide +kernel
theorem dJ6_bitCount_0f7a4_16 : decode cJ6_bitCount_0f7a4 16 = .ok (.iconst 2, 1) := by decide +kernel
theorem dJ6_bitCount_0f7a4_17 : decode cJ6_bitCount_0f7a4 17 = .ok (.iushr, 1) := by decide +kernel
theorem dJ6_bitCount_0f7a4_18 : decode cJ6_bitCount_0f7a4 18 = .ok (.ldc_w 266, 3) := by decide +kernel
theorem dJ6_bitCount_0f7a4_21 : decode cJ6_bitCount_0f7a4 21 = .ok (.iand, 1) := by decide +kernel
theorem dJ6_bitCount_0f7a4_22 : decode cJ6_bitCount_0f7a4 22 = .ok (.iadd, 1) := by decide +kernel
theorem dJ6_bitCount_0f7a4_23 : decode cJ6_bitCount_0f7a4 23 = .ok (.istore_n 0, 1) := by decide +kernel
theorem dJ6_bitCount_0f7a4_24 : decode cJ6_bitCount_0f7a4 24 = .ok (.iload_n 0, 1) := by decide +kernel
theorem dJ6_bitCount_0f7a4_25 : decode cJ6_bitCount_0f7a4 25 = .ok (.iload_n 0, 1) := by decide +kernel
theorem dJ6_bitCount_0f7a4_26 : decode cJ6_bitCount_0f7a4 26 = .ok (.iconst 4, 1) := by decide +kernel
theorem dJ6_bitCount_0f7a4_27 : decode cJ6_bitCount_0f7a4 27 = .ok (.iushr, 1) := by decide +kernel
theorem dJ6_bitCount_0f7a4_28 : decode cJ6_bitCount_0f7a4 28 = .ok (.iadd, 1) := by decide +kernel
theorem dJ6_bitCount_0f7a4_29 : decode cJ6_bitCount_0f7a4 29 = .ok (.ldc_w 267, 3) := by decide +kernel
theorem dJ6_bitCount_0f7a4_32 : decode cJ6_bitCount_0f7a4 32 = .ok (.iand, 1) := by decide +kernel
theorem dJ6_bitCount_0f7a4_33 : decode cJ6_bitCount_0f7a4 33 = .ok (.istore_n 0, 1) := by decide +kernel
theorem dJ6_bitCount_0f7a4_34 : decode cJ6_bitCount_0f7a4 34 = .ok (.iload_n 0, 1) := by decide +kernel
theorem dJ6_bitCount_0f7a4_35 : decode cJ6_bitCount_0f7a4 35 = .ok (.iload_n 0, 1) := by decide +kernel
theorem dJ6_bitCount_0f7a4_36 : decode cJ6_bitCount_0f7a4 36 = .ok (.bipush 8, 2) := by decide +kernel
theorem dJ6_bitCount_0f7a4_38 : decode cJ6_bitCount_0f7a4 38 = .ok (.iushr, 1) := by decide +kernel
theorem dJ6_bitCount_0f7a4_39 : decode cJ6_bitCount_0f7a4 39 = .ok (.iadd, 1) := by decide +kernel
theorem dJ6_bitCount_0f7a4_40 : decode cJ6_bitCount_0f7a4 40 = .ok (.istore_n 0, 1) := by decide +kernel
theorem dJ6_bitCount_0f7a4_41 : decode cJ6_bitCount_0f7a4 41 = .ok (.iload_n 0, 1) := by decide +kernel
theorem dJ6_bitCount_0f7a4_42 : decode cJ6_bitCount_0f7a4 42 = .ok (.iload_n 0, 1) := by decide +kernel
theorem dJ6_bitCount_0f7a4_43 : decode cJ6_bitCount_0f7a4 43 = .ok (.bipush 16, 2) := by decide +kernel
theorem dJ6_bitCount_0f7a4_45 : decode cJ6_bitCount_0f7a4 45 = .ok (.iushr, 1) := by decide +kernel
theorem dJ6_bitCount_0f7a4_46 : decode cJ6_bitCount_0f7a4 46 = .ok (.iadd, 1) := by decide +kernel
theorem dJ6_bitCount_0f7a4_47 : decode cJ6_bitCount_0f7a4 47 = .ok (.istore_n 0, 1) := by decide +kernel
theorem dJ6_bitCount_0f7a4_48 : decode cJ6_bitCount_0f7a4 48 = .ok (.iload_n 0, 1) := by decide +kernel
theorem dJ6_bitCount_0f7a4_49 : decode cJ6_bitCount_0f7a4 49 = .ok (.bipush 63, 2) := by decide +kernel
theorem dJ6_bitCount_0f7a4_51 : decode cJ6_bitCount_0f7a4 51 = .ok (.iand, 1) := by decide +kernel
theorem dJ6_bitCount_0f7a4_52 : decode cJ6_bitCount_0f7a4 52 = .ok (.ireturn, 1) := by decide +kernel
theorem dJ9_max_7cf53_0 : decode cJ9_max_7cf53 0 = .ok (.iload_n 0, 1) := by decide +kernel
theorem dJ9_max_7cf53_1 : decode cJ9_max_7cf53 1 = .ok (.iload_n 1, 1) := by decide +kernel
theorem dJ9_max_7cf53_2 : decode cJ9_max_7cf53 2 = .ok (.if_icmp .lt 7, 3) := by decide +kernel
theorem dJ9_max_7cf53_5 : decode cJ9_max_7cf53 5 = .ok (.iload_n 0, 1) := by decide +kernel
theorem dJ9_max_7cf53_6 : decode cJ9_max_7cf53 6 = .ok (.goto 4, 3) := by decide +kernel
theorem dJ9_max_7cf53_9 : decode cJ9_max_7cf53 9 = .ok (.iload_n 1, 1) := by decide +kernel
theorem dJ9_max_7cf53_10 : decode cJ9_max_7cf53 10 = .ok (.ireturn, 1) := by decide +kernel
theorem dJ7_fill_53178_0 : decode cJ7_fill_53178 0 = .ok (.iconst 0, 1) := by decide +kernel
theorem dJ7_fill_53178_1 : decode cJ7_fill_53178 1 = .ok (.istore_n 2, 1) := by decide +kernel
theorem dJ7_fill_53178_2 : decode cJ7_fill_53178 2 = .ok (.aload_n 0, 1) := by decide +kernel
theorem dJ7_fill_53178_3 : decode cJ7_fill_53178 3 = .ok (.arraylength, 1) := by decide +kernel
theorem dJ7_fill_53178_4 : decode cJ7_fill_53178 4 = .ok (.istore_n 3, 1) := by decide +kernel
theorem dJ7_fill_53178_5 : decode cJ7_fill_53178 5 = .ok (.iload_n 2, 1) := by decide +kernel
theorem dJ7_fill_53178_6 : decode cJ7_fill_53178 6 = .ok (.iload_n 3, 1) := by decide +kernel
theorem dJ7_fill_53178_7 : decode cJ7_fill_53178 7 = .ok (.if_icmp .ge 13, 3) := by decide +kernel
theorem dJ7_fill_53178_10 : decode cJ7_fill_53178 10 = .ok (.aload_n 0, 1) := by decide +kernel
theorem dJ7_fill_53178_11 : decode cJ7_fill_53178 11 = .ok (.iload_n 2, 1) := by decide +kernel
theorem dJ7_fill_53178_12 : decode cJ7_fill_53178 12 = .ok (.iload_n 1, 1) := by decide +kernel
theorem dJ7_fill_53178_13 : decode cJ7_fill_53178 13 = .ok (.iastore, 1) := by decide +kernel
theorem dJ7_fill_53178_14 : decode cJ7_fill_53178 14 = .ok (.iinc 2 1, 3) := by decide +kernel
theorem dJ7_fill_53178_17 : decode cJ7_fill_53178 17 = .ok (.goto (-12), 3) := by decide +kernel
theorem dJ7_fill_53178_20 : decode cJ7_fill_53178 20 = .ok (.return_, 1) := by decide +kernel
theorem dL_element_0 : decode cL_element 0 = .ok (.aload_n 3, 1) := by decide +kernel
theorem dL_element_1 : decode cL_element 1 = .ok (.iconst 0, 1) := by decide +kernel
theorem dL_element_2 : decode cL_element 2 = .ok (.aload_n 0, 1) := by decide +kernel
theorem dL_element_3 : decode cL_element 3 = .ok (.iload_n 1, 1) := by decide +kernel
theorem dL_element_4 : decode cL_element 4 = .ok (.iload_n 2, 1) := by decide +kernel
theorem dL_element_5 : decode cL_element 5 = .ok (.invokevirtual 7, 3) := by decide +kernel
theorem dL_element_8 : decode cL_element 8 = .ok (.lastore, 1) := by decide +kernel
theorem dL_element_9 : decode cL_element 9 = .ok (.goto 11, 3) := by decide +kernel
theorem dL_element_12 : decode cL_element 12 = .ok (.astore 4, 2) := by decide +kernel
theorem dL_element_14 : decode cL_element 14 = .ok (.iconst 1, 1) := by decide +kernel
theorem dL_element_15 : decode cL_element 15 = .ok (.ireturn, 1) := by decide +kernel
theorem dL_element_16 : decode cL_element 16 = .ok (.astore 4, 2) := by decide +kernel
theorem dL_element_18 : decode cL_element 18 = .ok (.iconst 2, 1) := by decide +kernel
theorem dL_element_19 : decode cL_element 19 = .ok (.ireturn, 1) := by decide +kernel
theorem dL_element_20 : decode cL_element 20 = .ok (.iconst 0, 1) := by decide +kernel
theorem dL_element_21 : decode cL_element 21 = .ok (.ireturn, 1) := by decide +kernel
theorem dL_law_0 : decode cL_law 0 = .ok (.new 8, 3) := by decide +kernel
theorem dL_law_3 : decode cL_law 3 = .ok (.dup, 1) := by decide +kernel
theorem dL_law_4 : decode cL_law 4 = .ok (.invokespecial 17, 3) := by decide +kernel
theorem dL_law_7 : decode cL_law 7 = .ok (.astore_n 1, 1) := by decide +kernel
theorem dL_law_8 : decode cL_law 8 = .ok (.new 18, 3) := by decide +kernel
theorem dL_law_11 : decode cL_law 11 = .ok (.dup, 1) := by decide +kernel
theorem dL_law_12 : decode cL_law 12 = .ok (.invokespecial 20, 3) := by decide +kernel
theorem dL_law_15 : decode cL_law 15 = .ok (.astore_n 2, 1) := by decide +kernel
theorem dL_law_16 : decode cL_law 16 = .ok (.iconst 1, 1) := by decide +kernel
theorem dL_law_17 : decode cL_law 17 = .ok (.newarray .long, 2) := by decide +kernel
theorem dL_law_19 : decode cL_law 19 = .ok (.astore_n 3, 1) := by decide +kernel
theorem dL_law_20 : decode cL_law 20 = .ok (.iconst 0, 1) := by decide +kernel
theorem dL_law_21 : decode cL_law 21 = .ok (.istore 4, 2) := by decide +kernel
theorem dL_law_23 : decode cL_law 23 = .ok (.iload 4, 2) := by decide +kernel
theorem dL_law_25 : decode cL_law 25 = .ok (.aload_n 0, 1) := by decide +kernel
theorem dL_law_26 : decode cL_law 26 = .ok (.arraylength, 1) := by decide +kernel
theorem dL_law_27 : decode cL_law 27 = .ok (.bipush 6, 2) := by decide +kernel
theorem dL_law_29 : decode cL_law 29 = .ok (.isub, 1) := by decide +kernel
theorem dL_law_30 : decode cL_law 30 = .ok (.if_icmp .gt 1747, 3) := by decide +kernel
theorem dL_law_33 : decode cL_law 33 = .ok (.aload_n 0, 1) := by decide +kernel
theorem dL_law_34 : decode cL_law 34 = .ok (.iload 4, 2) := by decide +kernel
theorem dL_law_36 : decode cL_law 36 = .ok (.iaload, 1) := by decide +kernel
theorem dL_law_37 : decode cL_law 37 = .ok (.bipush 63, 2) := by decide +kernel
theorem dL_law_39 : decode cL_law 39 = .ok (.iand, 1) := by decide +kernel
theorem dL_law_40 : decode cL_law 40 = .ok (.tableswitch 1731 0 38 #[172, 197, 234, 271, 320, 357, 406, 443, 480, 517, 542, 579, 628, 677, 714, 739, 788, 825, 862, 887, 912, 949, 998, 1047, 1108, 1182, 1220, 1245, 1282, 1331, 1344, 1357, 1382, 1443, 1492, 1541, 1608, 1681, 1706], 172) := by decide +kernel
theorem dL_law_212 : decode cL_law 212 = .ok (.aload_n 1, 1) := by decide +kernel
theorem dL_law_213 : decode cL_law 213 = .ok (.aload_n 0, 1) := by decide +kernel
theorem dL_law_214 : decode cL_law 214 = .ok (.iload 4, 2) := by decide +kernel
theorem dL_law_216 : decode cL_law 216 = .ok (.iconst 1, 1) := by decide +kernel
theorem dL_law_217 : decode cL_law 217 = .ok (.iadd, 1) := by decide +kernel
theorem dL_law_218 : decode cL_law 218 = .ok (.iaload, 1) := by decide +kernel
theorem dL_law_219 : decode cL_law 219 = .ok (.invokevirtual 21, 3) := by decide +kernel
theorem dL_law_222 : decode cL_law 222 = .ok (.aload_n 2, 1) := by decide +kernel
theorem dL_law_223 : decode cL_law 223 = .ok (.aload_n 0, 1) := by decide +kernel
theorem dL_law_224 : decode cL_law 224 = .ok (.iload 4, 2) := by decide +kernel
theorem dL_law_226 : decode cL_law 226 = .ok (.iconst 1, 1) := by decide +kernel
theorem dL_law_227 : decode cL_law 227 = .ok (.iadd, 1) := by decide +kernel
theorem dL_law_228 : decode cL_law 228 = .ok (.iaload, 1) := by decide +kernel
theorem dL_law_229 : decode cL_law 229 = .ok (.invokevirtual 25, 3) := by decide +kernel
theorem dL_law_232 : decode cL_law 232 = .ok (.if_icmp .eq 1539, 3) := by decide +kernel
theorem dL_law_235 : decode cL_law 235 = .ok (.iconst 0, 1) := by decide +kernel
theorem dL_law_236 : decode cL_law 236 = .ok (.ireturn, 1) := by decide +kernel
theorem dL_law_237 : decode cL_law 237 = .ok (.aload_n 1, 1) := by decide +kernel
theorem dL_law_238 : decode cL_law 238 = .ok (.aload_n 0, 1) := by decide +kernel
theorem dL_law_239 : decode cL_law 239 = .ok (.iload 4, 2) := by decide +kernel
theorem dL_law_241 : decode cL_law 241 = .ok (.iconst 1, 1) := by decide +kernel
theorem dL_law_242 : decode cL_law 242 = .ok (.iadd, 1) := by decide +kernel
theorem dL_law_243 : decode cL_law 243 = .ok (.iaload, 1) := by decide +kernel
theorem dL_law_244 : decode cL_law 244 = .ok (.aload_n 0, 1) := by decide +kernel
theorem dL_law_245 : decode cL_law 245 = .ok (.iload 4, 2) := by decide +kernel
theorem dL_law_247 : decode cL_law 247 = .ok (.iconst 2, 1) := by decide +kernel
theorem dL_law_248 : decode cL_law 248 = .ok (.iadd, 1) := by decide +kernel
theorem dL_law_249 : decode cL_law 249 = .ok (.iaload, 1) := by decide +kernel
theorem dL_law_250 : decode cL_law 250 = .ok (.invokevirtual 26, 3) := by decide +kernel
theorem dL_law_253 : decode cL_law 253 = .ok (.aload_n 2, 1) := by decide +kernel
theorem dL_law_254 : decode cL_law 254 = .ok (.aload_n 0, 1) := by decide +kernel
theorem dL_law_255 : decode cL_law 255 = .ok (.iload 4, 2) := by decide +kernel
theorem dL_law_257 : decode cL_law 257 = .ok (.iconst 1, 1) := by decide +kernel
theorem dL_law_258 : decode cL_law 258 = .ok (.iadd, 1) := by decide +kernel
theorem dL_law_259 : decode cL_law 259 = .ok (.iaload, 1) := by decide +kernel
theorem dL_law_260 : decode cL_law 260 = .ok (.aload_n 0, 1) := by decide +kernel
theorem dL_law_261 : decode cL_law 261 = .ok (.iload 4, 2) := by decide +kernel
theorem dL_law_263 : decode cL_law 263 = .ok (.iconst 2, 1) := by decide +kernel
theorem dL_law_264 : decode cL_law 264 = .ok (.iadd, 1) := by decide +kernel
theorem dL_law_265 : decode cL_law 265 = .ok (.iaload, 1) := by decide +kernel
theorem dL_law_266 : decode cL_law 266 = .ok (.invokevirtual 30, 3) := by decide +kernel
theorem dL_law_269 : decode cL_law 269 = .ok (.if_icmp .eq 1502, 3) := by decide +kernel
theorem dL_law_272 : decode cL_law 272 = .ok (.iconst 0, 1) := by decide +kernel
theorem dL_law_273 : decode cL_law 273 = .ok (.ireturn, 1) := by decide +kernel
theorem dL_law_274 : decode cL_law 274 = .ok (.aload_n 1, 1) := by decide +kernel
theorem dL_law_275 : decode cL_law 275 = .ok (.aload_n 0, 1) := by decide +kernel
theorem dL_law_276 : decode cL_law 276 = .ok (.iload 4, 2) := by decide +kernel
theorem dL_law_278 : decode cL_law 278 = .ok (.iconst 1, 1) := by decide +kernel
theorem dL_law_279 : decode cL_law 279 = .ok (.iadd, 1) := by decide +kernel
theorem dL_law_280 : decode cL_law 280 = .ok (.iaload, 1) := by decide +kernel
theorem dL_law_281 : decode cL_law 281 = .ok (.aload_n 0, 1) := by decide +kernel
theorem dL_law_282 : decode cL_law 282 = .ok (.iload 4, 2) := by decide +kernel
theorem dL_law_284 : decode cL_law 284 = .ok (.iconst 2, 1) := by decide +kernel
theorem dL_law_285 : decode cL_law 285 = .ok (.iadd, 1) := by decide +kernel
theorem dL_law_286 : decode cL_law 286 = .ok (.iaload, 1) := by decide +kernel
theorem dL_law_287 : decode cL_law 287 = .ok (.invokevirtual 31, 3) := by decide +kernel
theorem dL_law_290 : decode cL_law 290 = .ok (.aload_n 2, 1) := by decide +kernel
theorem dL_law_291 : decode cL_law 291 = .ok (.aload_n 0, 1) := by decide +kernel
theorem dL_law_292 : decode cL_law 292 = .ok (.iload 4, 2) := by decide +kernel
theorem dL_law_294 : decode cL_law 294 = .ok (.iconst 1, 1) := by decide +kernel
theorem dL_law_295 : decode cL_law 295 = .ok (.iadd, 1) := by decide +kernel
theorem dL_law_296 : decode cL_law 296 = .ok (.iaload, 1) := by decide +kernel
theorem dL_law_297 : decode cL_law 297 = .ok (.aload_n 0, 1) := by decide +kernel
theorem dL_law_298 : decode cL_law 298 = .ok (.iload 4, 2) := by decide +kernel
theorem dL_law_300 : decode cL_law 300 = .ok (.iconst 2, 1) := by decide +kernel
theorem dL_law_301 : decode cL_law 301 = .ok (.iadd, 1) := by decide +kernel
theorem dL_law_302 : decode cL_law 302 = .ok (.iaload, 1) := by decide +kernel
theorem dL_law_303 : decode cL_law 303 = .ok (.invokevirtual 34, 3) := by decide +kernel
theorem dL_law_306 : decode cL_law 306 = .ok (.if_icmp .eq 1465, 3) := by decide +kernel
theorem dL_law_309 : decode cL_law 309 = .ok (.iconst 0, 1) := by decide +kernel
theorem dL_law_310 : decode cL_law 310 = .ok (.ireturn, 1) := by decide +kernel
theorem dL_law_311 : decode cL_law 311 = .ok (.aload_n 1, 1) := by decide +kernel
theorem dL_law_312 : decode cL_law 312 = .ok (.aload_n 0, 1) := by decide +kernel
theorem dL_law_313 : decode cL_law 313 = .ok (.iload 4, 2) := by decide +kernel
theorem dL_law_315 : decode cL_law 315 = .ok (.iconst 1, 1) := by decide +kernel
theorem dL_law_316 : decode cL_law 316 = .ok (.iadd, 1) := by decide +kernel
theorem dL_law_317 : decode cL_law 317 = .ok (.iaload, 1) := by decide +kernel
theorem dL_law_318 : decode cL_law 318 = .ok (.aload_n 0, 1) := by decide +kernel
theorem dL_law_319 : decode cL_law 319 = .ok (.iload 4, 2) := by decide +kernel
theorem dL_law_321 : decode cL_law 321 = .ok (.iconst 2, 1) := by decide +kernel
theorem dL_law_322 : decode cL_law 322 = .ok (.iadd, 1) := by decide +kernel
theorem dL_law_323 : decode cL_law 323 = .ok (.iaload, 1) := by decide +kernel
theorem dL_law_324 : decode cL_law 324 = .ok (.aload_n 0, 1) := by decide +kernel
theorem dL_law_325 : decode cL_law 325 = .ok (.iload 4, 2) := by decide +kernel
theorem dL_law_327 : decode cL_law 327 = .ok (.iconst 3, 1) := by decide +kernel
theorem dL_law_328 : decode cL_law 328 = .ok (.iadd, 1) := by decide +kernel
theorem dL_law_329 : decode cL_law 329 = .ok (.iaload, 1) := by decide +kernel
theorem dL_law_330 : decode cL_law 330 = .ok (.invokevirtual 35, 3) := by decide +kernel
theorem dL_law_333 : decode cL_law 333 = .ok (.aload_n 2, 1) := by decide +kernel
theorem dL_law_334 : decode cL_law 334 = .ok (.aload_n 0, 1) := by decide +kernel
theorem dL_law_335 : decode cL_law 335 = .ok (.iload 4, 2) := by decide +kernel
theorem dL_law_337 : decode cL_law 337 = .ok (.iconst 1, 1) := by decide +kernel
theorem dL_law_338 : decode cL_law 338 = .ok (.iadd, 1) := by decide +kernel
theorem dL_law_339 : decode cL_law 339 = .ok (.iaload, 1) := by decide +kernel
theorem dL_law_340 : decode cL_law 340 = .ok (.aload_n 0, 1) := by decide +kernel
theorem dL_law_341 : decode cL_law 341 = .ok (.iload 4, 2) := by decide +kernel
theorem dL_law_343 : decode cL_law 343 = .ok (.iconst 2, 1) := by decide +kernel
theorem dL_law_344 : decode cL_law 344 = .ok (.iadd, 1) := by decide +kernel
theorem dL_law_345 : decode cL_law 345 = .ok (.iaload, 1) := by decide +kernel
theorem dL_law_346 : decode cL_law 346 = .ok (.aload_n 0, 1) := by decide +kernel
theorem dL_law_347 : decode cL_law 347 = .ok (.iload 4, 2) := by decide +kernel
theorem dL_law_349 : decode cL_law 349 = .ok (.iconst 3, 1) := by decide +kernel
theorem dL_law_350 : decode cL_law 350 = .ok (.iadd, 1) := by decide +kernel
theorem dL_law_351 : decode cL_law 351 = .ok (.iaload, 1) := by decide +kernel
theorem dL_law_352 : decode cL_law 352 = .ok (.invokevirtual 39, 3) := by decide +kernel
theorem dL_law_355 : decode cL_law 355 = .ok (.if_icmp .eq 1416, 3) := by decide +kernel
theorem dL_law_358 : decode cL_law 358 = .ok (.iconst 0, 1) := by decide +kernel
theorem dL_law_359 : decode cL_law 359 = .ok (.ireturn, 1) := by decide +kernel
theorem dL_law_360 : decode cL_law 360 = .ok (.aload_n 1, 1) := by decide +kernel
theorem dL_law_361 : decode cL_law 361 = .ok (.aload_n 0, 1) := by decide +kernel
theorem dL_law_362 : decode cL_law 362 = .ok (.iload 4, 2) := by decide +kernel
theorem dL_law_364 : decode cL_law 364 = .ok (.iconst 1, 1) := by decide +kernel
theorem dL_law_365 : decode cL_law 365 = .ok (.iadd, 1) := by decide +kernel
theorem dL_law_366 : decode cL_law 366 = .ok (.iaload, 1) := by decide +kernel
theorem dL_law_367 : decode cL_law 367 = .ok (.aload_n 0, 1) := by decide +kernel
theorem dL_law_368 : decode cL_law 368 = .ok (.iload 4, 2) := by decide +kernel
theorem dL_law_370 : decode cL_law 370 = .ok (.iconst 2, 1) := by decide +kernel
theorem dL_law_371 : decode cL_law 371 = .ok (.iadd, 1) := by decide +kernel
theorem dL_law_372 : decode cL_law 372 = .ok (.iaload, 1) := by decide +kernel
theorem dL_law_373 : decode cL_law 373 = .ok (.invokevirtual 40, 3) := by decide +kernel
theorem dL_law_376 : decode cL_law 376 = .ok (.aload_n 2, 1) := by decide +kernel
theorem dL_law_377 : decode cL_law 377 = .ok (.aload_n 0, 1) := by decide +kernel
theorem dL_law_378 : decode cL_law 378 = .ok (.iload 4, 2) := by decide +kernel
theorem dL_law_380 : decode cL_law 380 = .ok (.iconst 1, 1) := by decide +kernel
theorem dL_law_381 : decode cL_law 381 = .ok (.iadd, 1) := by decide +kernel
theorem dL_law_382 : decode cL_law 382 = .ok (.iaload, 1) := by decide +kernel
theorem dL_law_383 : decode cL_law 383 = .ok (.aload_n 0, 1) := by decide +kernel
theorem dL_law_384 : decode cL_law 384 = .ok (.iload 4, 2) := by decide +kernel
theorem dL_law_386 : decode cL_law 386 = .ok (.iconst 2, 1) := by decide +kernel
theorem dL_law_387 : decode cL_law 387 = .ok (.iadd, 1) := by decide +kernel
theorem dL_law_388 : decode cL_law 388 = .ok (.iaload, 1) := by decide +kernel
theorem dL_law_389 : decode cL_law 389 = .ok (.invokevirtual 43, 3) := by decide +kernel
theorem dL_law_392 : decode cL_law 392 = .ok (.if_icmp .eq 1379, 3) := by decide +kernel
theorem dL_law_395 : decode cL_law 395 = .ok (.iconst 0, 1) := by decide +kernel
theorem dL_law_396 : decode cL_law 396 = .ok (.ireturn, 1) := by decide +kernel
theorem dL_law_397 : decode cL_law 397 = .ok (.aload_n 1, 1) := by decide +kernel
theorem dL_law_398 : decode cL_law 398 = .ok (.aload_n 0, 1) := by decide +kernel
theorem dL_law_399 : decode cL_law 399 = .ok (.iload 4, 2) := by decide +kernel
theorem dL_law_401 : decode cL_law 401 = .ok (.iconst 1, 1) := by decide +kernel
theorem dL_law_402 : decode cL_law 402 = .ok (.iadd, 1) := by decide +kernel
theorem dL_law_403 : decode cL_law 403 = .ok (.iaload, 1) := by decide +kernel
theorem dL_law_404 : decode cL_law 404 = .ok (.aload_n 0, 1) := by decide +kernel
theorem dL_law_405 : decode cL_law 405 = .ok (.iload 4, 2) := by decide +kernel
theorem dL_law_407 : decode cL_law 407 = .ok (.iconst 2, 1) := by decide +kernel
theorem dL_law_408 : decode cL_law 408 = .ok (.iadd, 1) := by decide +kernel
theorem dL_law_409 : decode cL_law 409 = .ok (.iaload, 1) := by decide +kernel
theorem dL_law_410 : decode cL_law 410 = .ok (.aload_n 0, 1) := by decide +kernel
theorem dL_law_411 : decode cL_law 411 = .ok (.iload 4, 2) := by decide +kernel
theorem dL_law_413 : decode cL_law 413 = .ok (.iconst 3, 1) := by decide +kernel
theorem dL_law_414 : decode cL_law 414 = .ok (.iadd, 1) := by decide +kernel
theorem dL_law_415 : decode cL_law 415 = .ok (.iaload, 1) := by decide +kernel
theorem dL_law_416 : decode cL_law 416 = .ok (.invokevirtual 44, 3) := by decide +kernel
theorem dL_law_419 : decode cL_law 419 = .ok (.aload_n 2, 1) := by decide +kernel
theorem dL_law_420 : decode cL_law 420 = .ok (.aload_n 0, 1) := by decide +kernel
theorem dL_law_421 : decode cL_law 421 = .ok (.iload 4, 2) := by decide +kernel
theorem dL_law_423 : decode cL_law 423 = .ok (.iconst 1, 1) := by decide +kernel
theorem dL_law_424 : decode cL_law 424 = .ok (.iadd, 1) := by decide +kernel
theorem dL_law_425 : decode cL_law 425 = .ok (.iaload, 1) := by decide +kernel
theorem dL_law_426 : decode cL_law 426 = .ok (.aload_n 0, 1) := by decide +kernel
theorem dL_law_427 : decode cL_law 427 = .ok (.iload 4, 2) := by decide +kernel
theorem dL_law_429 : decode cL_law 429 = .ok (.iconst 2, 1) := by decide +kernel
theorem dL_law_430 : decode cL_law 430 = .ok (.iadd, 1) := by decide +kernel
theorem dL_law_431 : decode cL_law 431 = .ok (.iaload, 1) := by decide +kernel
theorem dL_law_432 : decode cL_law 432 = .ok (.aload_n 0, 1) := by decide +kernel
theorem dL_law_433 : decode cL_law 433 = .ok (.iload 4, 2) := by decide +kernel
theorem dL_law_435 : decode cL_law 435 = .ok (.iconst 3, 1) := by decide +kernel
theorem dL_law_436 : decode cL_law 436 = .ok (.iadd, 1) := by decide +kernel
theorem dL_law_437 : decode cL_law 437 = .ok (.iaload, 1) := by decide +kernel
theorem dL_law_438 : decode cL_law 438 = .ok (.invokevirtual 47, 3) := by decide +kernel
theorem dL_law_441 : decode cL_law 441 = .ok (.if_icmp .eq 1330, 3) := by decide +kernel
theorem dL_law_444 : decode cL_law 444 = .ok (.iconst 0, 1) := by decide +kernel
theorem dL_law_445 : decode cL_law 445 = .ok (.ireturn, 1) := by decide +kernel
theorem dL_law_446 : decode cL_law 446 = .ok (.aload_n 1, 1) := by decide +kernel
theorem dL_law_447 : decode cL_law 447 = .ok (.aload_n 0, 1) := by decide +kernel
theorem dL_law_448 : decode cL_law 448 = .ok (.iload 4, 2) := by decide +kernel
theorem dL_law_450 : decode cL_law 450 = .ok (.iconst 1, 1) := by decide +kernel
theorem dL_law_451 : decode cL_law 451 = .ok (.iadd, 1) := by decide +kernel
theorem dL_law_452 : decode cL_law 452 = .ok (.iaload, 1) := by decide +kernel
theorem dL_law_453 : decode cL_law 453 = .ok (.aload_n 0, 1) := by decide +kernel
theorem dL_law_454 : decode cL_law 454 = .ok (.iload 4, 2) := by decide +kernel
theorem dL_law_456 : decode cL_law 456 = .ok (.iconst 2, 1) := by decide +kernel
theorem dL_law_457 : decode cL_law 457 = .ok (.iadd, 1) := by decide +kernel
theorem dL_law_458 : decode cL_law 458 = .ok (.iaload, 1) := by decide +kernel
theorem dL_law_459 : decode cL_law 459 = .ok (.invokevirtual 48, 3) := by decide +kernel
theorem dL_law_462 : decode cL_law 462 = .ok (.aload_n 2, 1) := by decide +kernel
theorem dL_law_463 : decode cL_law 463 = .ok (.aload_n 0, 1) := by decide +kernel
theorem dL_law_464 : decode cL_law 464 = .ok (.iload 4, 2) := by decide +kernel
theorem dL_law_466 : decode cL_law 466 = .ok (.iconst 1, 1) := by decide +kernel
theorem dL_law_467 : decode cL_law 467 = .ok (.iadd, 1) := by decide +kernel
theorem dL_law_468 : decode cL_law 468 = .ok (.iaload, 1) := by decide +kernel
theorem dL_law_469 : decode cL_law 469 = .ok (.aload_n 0, 1) := by decide +kernel
theorem dL_law_470 : decode cL_law 470 = .ok (.iload 4, 2) := by decide +kernel
theorem dL_law_472 : decode cL_law 472 = .ok (.iconst 2, 1) := by decide +kernel
theorem dL_law_473 : decode cL_law 473 = .ok (.iadd, 1) := by decide +kernel
theorem dL_law_474 : decode cL_law 474 = .ok (.iaload, 1) := by decide +kernel
theorem dL_law_475 : decode cL_law 475 = .ok (.invokevirtual 51, 3) := by decide +kernel
theorem dL_law_478 : decode cL_law 478 = .ok (.if_icmp .eq 1293, 3) := by decide +kernel
theorem dL_law_481 : decode cL_law 481 = .ok (.iconst 0, 1) := by decide +kernel
theorem dL_law_482 : decode cL_law 482 = .ok (.ireturn, 1) := by decide +kernel
theorem dL_law_483 : decode cL_law 483 = .ok (.aload_n 1, 1) := by decide +kernel
theorem dL_law_484 : decode cL_law 484 = .ok (.aload_n 0, 1) := by decide +kernel
theorem dL_law_485 : decode cL_law 485 = .ok (.iload 4, 2) := by decide +kernel
theorem dL_law_487 : decode cL_law 487 = .ok (.iconst 1, 1) := by decide +kernel
theorem dL_law_488 : decode cL_law 488 = .ok (.iadd, 1) := by decide +kernel
theorem dL_law_489 : decode cL_law 489 = .ok (.iaload, 1) := by decide +kernel
theorem dL_law_490 : decode cL_law 490 = .ok (.aload_n 0, 1) := by decide +kernel
theorem dL_law_491 : decode cL_law 491 = .ok (.iload 4, 2) := by decide +kernel
theorem dL_law_493 : decode cL_law 493 = .ok (.iconst 2, 1) := by decide +kernel
theorem dL_law_494 : decode cL_law 494 = .ok (.iadd, 1) := by decide +kernel
theorem dL_law_495 : decode cL_law 495 = .ok (.iaload, 1) := by decide +kernel
theorem dL_law_496 : decode cL_law 496 = .ok (.invokevirtual 52, 3) := by decide +kernel
theorem dL_law_499 : decode cL_law 499 = .ok (.aload_n 2, 1) := by decide +kernel
theorem dL_law_500 : decode cL_law 500 = .ok (.aload_n 0, 1) := by decide +kernel
theorem dL_law_501 : decode cL_law 501 = .ok (.iload 4, 2) := by decide +kernel
theorem dL_law_503 : decode cL_law 503 = .ok (.iconst 1, 1) := by decide +kernel
theorem dL_law_504 : decode cL_law 504 = .ok (.iadd, 1) := by decide +kernel
theorem dL_law_505 : decode cL_law 505 = .ok (.iaload, 1) := by decide +kernel
theorem dL_law_506 : decode cL_law 506 = .ok (.aload_n 0, 1) := by decide +kernel
theorem dL_law_507 : decode cL_law 507 = .ok (.iload 4, 2) := by decide +kernel
theorem dL_law_509 : decode cL_law 509 = .ok (.iconst 2, 1) := by decide +kernel
theorem dL_law_510 : decode cL_law 510 = .ok (.iadd, 1) := by decide +kernel
theorem dL_law_511 : decode cL_law 511 = .ok (.iaload, 1) := by decide +kernel
theorem dL_law_512 : decode cL_law 512 = .ok (.invokevirtual 55, 3) := by decide +kernel
theorem dL_law_515 : decode cL_law 515 = .ok (.if_icmp .eq 1256, 3) := by decide +kernel
theorem dL_law_518 : decode cL_law 518 = .ok (.iconst 0, 1) := by decide +kernel
theorem dL_law_519 : decode cL_law 519 = .ok (.ireturn, 1) := by decide +kernel
theorem dL_law_520 : decode cL_law 520 = .ok (.aload_n 1, 1) := by decide +kernel
theorem dL_law_521 : decode cL_law 521 = .ok (.aload_n 0, 1) := by decide +kernel
theorem dL_law_522 : decode cL_law 522 = .ok (.iload 4, 2) := by decide +kernel
theorem dL_law_524 : decode cL_law 524 = .ok (.iconst 1, 1) := by decide +kernel
theorem dL_law_525 : decode cL_law 525 = .ok (.iadd, 1) := by decide +kernel
theorem dL_law_526 : decode cL_law 526 = .ok (.iaload, 1) := by decide +kernel
theorem dL_law_527 : decode cL_law 527 = .ok (.aload_n 0, 1) := by decide +kernel
theorem dL_law_528 : decode cL_law 528 = .ok (.iload 4, 2) := by decide +kernel
theorem dL_law_530 : decode cL_law 530 = .ok (.iconst 2, 1) := by decide +kernel
theorem dL_law_531 : decode cL_law 531 = .ok (.iadd, 1) := by decide +kernel
theorem dL_law_532 : decode cL_law 532 = .ok (.iaload, 1) := by decide +kernel
theorem dL_law_533 : decode cL_law 533 = .ok (.invokevirtual 56, 3) := by decide +kernel
theorem dL_law_536 : decode cL_law 536 = .ok (.aload_n 2, 1) := by decide +kernel
theorem dL_law_537 : decode cL_law 537 = .ok (.aload_n 0, 1) := by decide +kernel
theorem dL_law_538 : decode cL_law 538 = .ok (.iload 4, 2) := by decide +kernel
theorem dL_law_540 : decode cL_law 540 = .ok (.iconst 1, 1) := by decide +kernel
theorem dL_law_541 : decode cL_law 541 = .ok (.iadd, 1) := by decide +kernel
theorem dL_law_542 : decode cL_law 542 = .ok (.iaload, 1) := by decide +kernel
theorem dL_law_543 : decode cL_law 543 = .ok (.aload_n 0, 1) := by decide +kernel
theorem dL_law_544 : decode cL_law 544 = .ok (.iload 4, 2) := by decide +kernel
theorem dL_law_546 : decode cL_law 546 = .ok (.iconst 2, 1) := by decide +kernel
theorem dL_law_547 : decode cL_law 547 = .ok (.iadd, 1) := by decide +kernel
theorem dL_law_548 : decode cL_law 548 = .ok (.iaload, 1) := by decide +kernel
theorem dL_law_549 : decode cL_law 549 = .ok (.invokevirtual 59, 3) := by decide +kernel
theorem dL_law_552 : decode cL_law 552 = .ok (.if_icmp .eq 1219, 3) := by decide +kernel
theorem dL_law_555 : decode cL_law 555 = .ok (.iconst 0, 1) := by decide +kernel
theorem dL_law_556 : decode cL_law 556 = .ok (.ireturn, 1) := by decide +kernel
theorem dL_law_557 : decode cL_law 557 = .ok (.aload_n 1, 1) := by decide +kernel
theorem dL_law_558 : decode cL_law 558 = .ok (.aload_n 0, 1) := by decide +kernel
theorem dL_law_559 : decode cL_law 559 = .ok (.iload 4, 2) := by decide +kernel
theorem dL_law_561 : decode cL_law 561 = .ok (.iconst 1, 1) := by decide +kernel
theorem dL_law_562 : decode cL_law 562 = .ok (.iadd, 1) := by decide +kernel
theorem dL_law_563 : decode cL_law 563 = .ok (.iaload, 1) := by decide +kernel
theorem dL_law_564 : decode cL_law 564 = .ok (.invokevirtual 60, 3) := by decide +kernel
theorem dL_law_567 : decode cL_law 567 = .ok (.aload_n 2, 1) := by decide +kernel
theorem dL_law_568 : decode cL_law 568 = .ok (.aload_n 0, 1) := by decide +kernel
theorem dL_law_569 : decode cL_law 569 = .ok (.iload 4, 2) := by decide +kernel
theorem dL_law_571 : decode cL_law 571 = .ok (.iconst 1, 1) := by decide +kernel
theorem dL_law_572 : decode cL_law 572 = .ok (.iadd, 1) := by decide +kernel
theorem dL_law_573 : decode cL_law 573 = .ok (.iaload, 1) := by decide +kernel
theorem dL_law_574 : decode cL_law 574 = .ok (.invokevirtual 63, 3) := by decide +kernel
theorem dL_law_577 : decode cL_law 577 = .ok (.if_icmp .eq 1194, 3) := by decide +kernel
theorem dL_law_580 : decode cL_law 580 = .ok (.iconst 0, 1) := by decide +kernel
theorem dL_law_581 : decode cL_law 581 = .ok (.ireturn, 1) := by decide +kernel
theorem dL_law_582 : decode cL_law 582 = .ok (.aload_n 1, 1) := by decide +kernel
theorem dL_law_583 : decode cL_law 583 = .ok (.aload_n 0, 1) := by decide +kernel
theorem dL_law_584 : decode cL_law 584 = .ok (.iload 4, 2) := by decide +kernel
theorem dL_law_586 : decode cL_law 586 = .ok (.iconst 1, 1) := by decide +kernel
theorem dL_law_587 : decode cL_law 587 = .ok (.iadd, 1) := by decide +kernel
theorem dL_law_588 : decode cL_law 588 = .ok (.iaload, 1) := by decide +kernel
theorem dL_law_589 : decode cL_law 589 = .ok (.aload_n 0, 1) := by decide +kernel
theorem dL_law_590 : decode cL_law 590 = .ok (.iload 4, 2) := by decide +kernel
theorem dL_law_592 : decode cL_law 592 = .ok (.iconst 2, 1) := by decide +kernel
theorem dL_law_593 : decode cL_law 593 = .ok (.iadd, 1) := by decide +kernel
theorem dL_law_594 : decode cL_law 594 = .ok (.iaload, 1) := by decide +kernel
theorem dL_law_595 : decode cL_law 595 = .ok (.invokevirtual 64, 3) := by decide +kernel
theorem dL_law_598 : decode cL_law 598 = .ok (.aload_n 2, 1) := by decide +kernel
theorem dL_law_599 : decode cL_law 599 = .ok (.aload_n 0, 1) := by decide +kernel
theorem dL_law_600 : decode cL_law 600 = .ok (.iload 4, 2) := by decide +kernel
theorem dL_law_602 : decode cL_law 602 = .ok (.iconst 1, 1) := by decide +kernel
theorem dL_law_603 : decode cL_law 603 = .ok (.iadd, 1) := by decide +kernel
theorem dL_law_604 : decode cL_law 604 = .ok (.iaload, 1) := by decide +kernel
theorem dL_law_605 : decode cL_law 605 = .ok (.aload_n 0, 1) := by decide +kernel
theorem dL_law_606 : decode cL_law 606 = .ok (.iload 4, 2) := by decide +kernel
theorem dL_law_608 : decode cL_law 608 = .ok (.iconst 2, 1) := by decide +kernel
theorem dL_law_609 : decode cL_law 609 = .ok (.iadd, 1) := by decide +kernel
theorem dL_law_610 : decode cL_law 610 = .ok (.iaload, 1) := by decide +kernel
theorem dL_law_611 : decode cL_law 611 = .ok (.invokevirtual 67, 3) := by decide +kernel
theorem dL_law_614 : decode cL_law 614 = .ok (.if_icmp .eq 1157, 3) := by decide +kernel
theorem dL_law_617 : decode cL_law 617 = .ok (.iconst 0, 1) := by decide +kernel
theorem dL_law_618 : decode cL_law 618 = .ok (.ireturn, 1) := by decide +kernel
theorem dL_law_619 : decode cL_law 619 = .ok (.aload_n 1, 1) := by decide +kernel
theorem dL_law_620 : decode cL_law 620 = .ok (.aload_n 0, 1) := by decide +kernel
theorem dL_law_621 : decode cL_law 621 = .ok (.iload 4, 2) := by decide +kernel
theorem dL_law_623 : decode cL_law 623 = .ok (.iconst 1, 1) := by decide +kernel
theorem dL_law_624 : decode cL_law 624 = .ok (.iadd, 1) := by decide +kernel
theorem dL_law_625 : decode cL_law 625 = .ok (.iaload, 1) := by decide +kernel
theorem dL_law_626 : decode cL_law 626 = .ok (.aload_n 0, 1) := by decide +kernel
theorem dL_law_627 : decode cL_law 627 = .ok (.iload 4, 2) := by decide +kernel
theorem dL_law_629 : decode cL_law 629 = .ok (.iconst 2, 1) := by decide +kernel
theorem dL_law_630 : decode cL_law 630 = .ok (.iadd, 1) := by decide +kernel
theorem dL_law_631 : decode cL_law 631 = .ok (.iaload, 1) := by decide +kernel
theorem dL_law_632 : decode cL_law 632 = .ok (.aload_n 0, 1) := by decide +kernel
theorem dL_law_633 : decode cL_law 633 = .ok (.iload 4, 2) := by decide +kernel
theorem dL_law_635 : decode cL_law 635 = .ok (.iconst 3, 1) := by decide +kernel
theorem dL_law_636 : decode cL_law 636 = .ok (.iadd, 1) := by decide +kernel
theorem dL_law_637 : decode cL_law 637 = .ok (.iaload, 1) := by decide +kernel
theorem dL_law_638 : decode cL_law 638 = .ok (.invokevirtual 68, 3) := by decide +kernel
theorem dL_law_641 : decode cL_law 641 = .ok (.aload_n 2, 1) := by decide +kernel
theorem dL_law_642 : decode cL_law 642 = .ok (.aload_n 0, 1) := by decide +kernel
theorem dL_law_643 : decode cL_law 643 = .ok (.iload 4, 2) := by decide +kernel
theorem dL_law_645 : decode cL_law 645 = .ok (.iconst 1, 1) := by decide +kernel
theorem dL_law_646 : decode cL_law 646 = .ok (.iadd, 1) := by decide +kernel
theorem dL_law_647 : decode cL_law 647 = .ok (.iaload, 1) := by decide +kernel
theorem dL_law_648 : decode cL_law 648 = .ok (.aload_n 0, 1) := by decide +kernel
theorem dL_law_649 : decode cL_law 649 = .ok (.iload 4, 2) := by decide +kernel
theorem dL_law_651 : decode cL_law 651 = .ok (.iconst 2, 1) := by decide +kernel
theorem dL_law_652 : decode cL_law 652 = .ok (.iadd, 1) := by decide +kernel
theorem dL_law_653 : decode cL_law 653 = .ok (.iaload, 1) := by decide +kernel
theorem dL_law_654 : decode cL_law 654 = .ok (.aload_n 0, 1) := by decide +kernel
theorem dL_law_655 : decode cL_law 655 = .ok (.iload 4, 2) := by decide +kernel
theorem dL_law_657 : decode cL_law 657 = .ok (.iconst 3, 1) := by decide +kernel
theorem dL_law_658 : decode cL_law 658 = .ok (.iadd, 1) := by decide +kernel
theorem dL_law_659 : decode cL_law 659 = .ok (.iaload, 1) := by decide +kernel
theorem dL_law_660 : decode cL_law 660 = .ok (.invokevirtual 71, 3) := by decide +kernel
theorem dL_law_663 : decode cL_law 663 = .ok (.if_icmp .eq 1108, 3) := by decide +kernel
theorem dL_law_666 : decode cL_law 666 = .ok (.iconst 0, 1) := by decide +kernel
theorem dL_law_667 : decode cL_law 667 = .ok (.ireturn, 1) := by decide +kernel
theorem dL_law_668 : decode cL_law 668 = .ok (.aload_n 1, 1) := by decide +kernel
theorem dL_law_669 : decode cL_law 669 = .ok (.aload_n 0, 1) := by decide +kernel
theorem dL_law_670 : decode cL_law 670 = .ok (.iload 4, 2) := by decide +kernel
theorem dL_law_672 : decode cL_law 672 = .ok (.iconst 1, 1) := by decide +kernel
theorem dL_law_673 : decode cL_law 673 = .ok (.iadd, 1) := by decide +kernel
theorem dL_law_674 : decode cL_law 674 = .ok (.iaload, 1) := by decide +kernel
theorem dL_law_675 : decode cL_law 675 = .ok (.aload_n 0, 1) := by decide +kernel
theorem dL_law_676 : decode cL_law 676 = .ok (.iload 4, 2) := by decide +kernel
theorem dL_law_678 : decode cL_law 678 = .ok (.iconst 2, 1) := by decide +kernel
theorem dL_law_679 : decode cL_law 679 = .ok (.iadd, 1) := by decide +kernel
theorem dL_law_680 : decode cL_law 680 = .ok (.iaload, 1) := by decide +kernel
theorem dL_law_681 : decode cL_law 681 = .ok (.aload_n 0, 1) := by decide +kernel
theorem dL_law_682 : decode cL_law 682 = .ok (.iload 4, 2) := by decide +kernel
theorem dL_law_684 : decode cL_law 684 = .ok (.iconst 3, 1) := by decide +kernel
theorem dL_law_685 : decode cL_law 685 = .ok (.iadd, 1) := by decide +kernel
theorem dL_law_686 : decode cL_law 686 = .ok (.iaload, 1) := by decide +kernel
theorem dL_law_687 : decode cL_law 687 = .ok (.invokevirtual 72, 3) := by decide +kernel
theorem dL_law_690 : decode cL_law 690 = .ok (.aload_n 2, 1) := by decide +kernel
theorem dL_law_691 : decode cL_law 691 = .ok (.aload_n 0, 1) := by decide +kernel
theorem dL_law_692 : decode cL_law 692 = .ok (.iload 4, 2) := by decide +kernel
theorem dL_law_694 : decode cL_law 694 = .ok (.iconst 1, 1) := by decide +kernel
theorem dL_law_695 : decode cL_law 695 = .ok (.iadd, 1) := by decide +kernel
theorem dL_law_696 : decode cL_law 696 = .ok (.iaload, 1) := by decide +kernel
theorem dL_law_697 : decode cL_law 697 = .ok (.aload_n 0, 1) := by decide +kernel
theorem dL_law_698 : decode cL_law 698 = .ok (.iload 4, 2) := by decide +kernel
theorem dL_law_700 : decode cL_law 700 = .ok (.iconst 2, 1) := by decide +kernel
theorem dL_law_701 : decode cL_law 701 = .ok (.iadd, 1) := by decide +kernel
theorem dL_law_702 : decode cL_law 702 = .ok (.iaload, 1) := by decide +kernel
theorem dL_law_703 : decode cL_law 703 = .ok (.aload_n 0, 1) := by decide +kernel
theorem dL_law_704 : decode cL_law 704 = .ok (.iload 4, 2) := by decide +kernel
theorem dL_law_706 : decode cL_law 706 = .ok (.iconst 3, 1) := by decide +kernel
theorem dL_law_707 : decode cL_law 707 = .ok (.iadd, 1) := by decide +kernel
theorem dL_law_708 : decode cL_law 708 = .ok (.iaload, 1) := by decide +kernel
theorem dL_law_709 : decode cL_law 709 = .ok (.invokevirtual 75, 3) := by decide +kernel
theorem dL_law_712 : decode cL_law 712 = .ok (.if_icmp .eq 1059, 3) := by decide +kernel
theorem dL_law_715 : decode cL_law 715 = .ok (.iconst 0, 1) := by decide +kernel
theorem dL_law_716 : decode cL_law 716 = .ok (.ireturn, 1) := by decide +kernel
theorem dL_law_717 : decode cL_law 717 = .ok (.aload_n 1, 1) := by decide +kernel
theorem dL_law_718 : decode cL_law 718 = .ok (.aload_n 0, 1) := by decide +kernel
theorem dL_law_719 : decode cL_law 719 = .ok (.iload 4, 2) := by decide +kernel
theorem dL_law_721 : decode cL_law 721 = .ok (.iconst 1, 1) := by decide +kernel
theorem dL_law_722 : decode cL_law 722 = .ok (.iadd, 1) := by decide +kernel
theorem dL_law_723 : decode cL_law 723 = .ok (.iaload, 1) := by decide +kernel
theorem dL_law_724 : decode cL_law 724 = .ok (.aload_n 0, 1) := by decide +kernel
theorem dL_law_725 : decode cL_law 725 = .ok (.iload 4, 2) := by decide +kernel
theorem dL_law_727 : decode cL_law 727 = .ok (.iconst 2, 1) := by decide +kernel
theorem dL_law_728 : decode cL_law 728 = .ok (.iadd, 1) := by decide +kernel
theorem dL_law_729 : decode cL_law 729 = .ok (.iaload, 1) := by decide +kernel
theorem dL_law_730 : decode cL_law 730 = .ok (.invokevirtual 76, 3) := by decide +kernel
theorem dL_law_733 : decode cL_law 733 = .ok (.aload_n 2, 1) := by decide +kernel
theorem dL_law_734 : decode cL_law 734 = .ok (.aload_n 0, 1) := by decide +kernel
theorem dL_law_735 : decode cL_law 735 = .ok (.iload 4, 2) := by decide +kernel
theorem dL_law_737 : decode cL_law 737 = .ok (.iconst 1, 1) := by decide +kernel
theorem dL_law_738 : decode cL_law 738 = .ok (.iadd, 1) := by decide +kernel
theorem dL_law_739 : decode cL_law 739 = .ok (.iaload, 1) := by decide +kernel
theorem dL_law_740 : decode cL_law 740 = .ok (.aload_n 0, 1) := by decide +kernel
theorem dL_law_741 : decode cL_law 741 = .ok (.iload 4, 2) := by decide +kernel
theorem dL_law_743 : decode cL_law 743 = .ok (.iconst 2, 1) := by decide +kernel
theorem dL_law_744 : decode cL_law 744 = .ok (.iadd, 1) := by decide +kernel
theorem dL_law_745 : decode cL_law 745 = .ok (.iaload, 1) := by decide +kernel
theorem dL_law_746 : decode cL_law 746 = .ok (.invokevirtual 79, 3) := by decide +kernel
theorem dL_law_749 : decode cL_law 749 = .ok (.if_icmp .eq 1022, 3) := by decide +kernel
theorem dL_law_752 : decode cL_law 752 = .ok (.iconst 0, 1) := by decide +kernel
theorem dL_law_753 : decode cL_law 753 = .ok (.ireturn, 1) := by decide +kernel
theorem dL_law_754 : decode cL_law 754 = .ok (.aload_n 1, 1) := by decide +kernel
theorem dL_law_755 : decode cL_law 755 = .ok (.aload_n 0, 1) := by decide +kernel
theorem dL_law_756 : decode cL_law 756 = .ok (.iload 4, 2) := by decide +kernel
theorem dL_law_758 : decode cL_law 758 = .ok (.iconst 1, 1) := by decide +kernel
theorem dL_law_759 : decode cL_law 759 = .ok (.iadd, 1) := by decide +kernel
theorem dL_law_760 : decode cL_law 760 = .ok (.iaload, 1) := by decide +kernel
theorem dL_law_761 : decode cL_law 761 = .ok (.invokevirtual 80, 3) := by decide +kernel
theorem dL_law_764 : decode cL_law 764 = .ok (.aload_n 2, 1) := by decide +kernel
theorem dL_law_765 : decode cL_law 765 = .ok (.aload_n 0, 1) := by decide +kernel
theorem dL_law_766 : decode cL_law 766 = .ok (.iload 4, 2) := by decide +kernel
theorem dL_law_768 : decode cL_law 768 = .ok (.iconst 1, 1) := by decide +kernel
theorem dL_law_769 : decode cL_law 769 = .ok (.iadd, 1) := by decide +kernel
theorem dL_law_770 : decode cL_law 770 = .ok (.iaload, 1) := by decide +kernel
theorem dL_law_771 : decode cL_law 771 = .ok (.invokevirtual 83, 3) := by decide +kernel
theorem dL_law_774 : decode cL_law 774 = .ok (.if_icmp .eq 997, 3) := by decide +kernel
theorem dL_law_777 : decode cL_law 777 = .ok (.iconst 0, 1) := by decide +kernel
theorem dL_law_778 : decode cL_law 778 = .ok (.ireturn, 1) := by decide +kernel
theorem dL_law_779 : decode cL_law 779 = .ok (.aload_n 1, 1) := by decide +kernel
theorem dL_law_780 : decode cL_law 780 = .ok (.aload_n 0, 1) := by decide +kernel
theorem dL_law_781 : decode cL_law 781 = .ok (.iload 4, 2) := by decide +kernel
theorem dL_law_783 : decode cL_law 783 = .ok (.iconst 1, 1) := by decide +kernel
theorem dL_law_784 : decode cL_law 784 = .ok (.iadd, 1) := by decide +kernel
theorem dL_law_785 : decode cL_law 785 = .ok (.iaload, 1) := by decide +kernel
theorem dL_law_786 : decode cL_law 786 = .ok (.aload_n 0, 1) := by decide +kernel
theorem dL_law_787 : decode cL_law 787 = .ok (.iload 4, 2) := by decide +kernel
theorem dL_law_789 : decode cL_law 789 = .ok (.iconst 2, 1) := by decide +kernel
theorem dL_law_790 : decode cL_law 790 = .ok (.iadd, 1) := by decide +kernel
theorem dL_law_791 : decode cL_law 791 = .ok (.iaload, 1) := by decide +kernel
theorem dL_law_792 : decode cL_law 792 = .ok (.aload_n 0, 1) := by decide +kernel
theorem dL_law_793 : decode cL_law 793 = .ok (.iload 4, 2) := by decide +kernel
theorem dL_law_795 : decode cL_law 795 = .ok (.iconst 3, 1) := by decide +kernel
theorem dL_law_796 : decode cL_law 796 = .ok (.iadd, 1) := by decide +kernel
theorem dL_law_797 : decode cL_law 797 = .ok (.iaload, 1) := by decide +kernel
theorem dL_law_798 : decode cL_law 798 = .ok (.invokevirtual 84, 3) := by decide +kernel
theorem dL_law_801 : decode cL_law 801 = .ok (.aload_n 2, 1) := by decide +kernel
theorem dL_law_802 : decode cL_law 802 = .ok (.aload_n 0, 1) := by decide +kernel
theorem dL_law_803 : decode cL_law 803 = .ok (.iload 4, 2) := by decide +kernel
theorem dL_law_805 : decode cL_law 805 = .ok (.iconst 1, 1) := by decide +kernel
theorem dL_law_806 : decode cL_law 806 = .ok (.iadd, 1) := by decide +kernel
theorem dL_law_807 : decode cL_law 807 = .ok (.iaload, 1) := by decide +kernel
theorem dL_law_808 : decode cL_law 808 = .ok (.aload_n 0, 1) := by decide +kernel
theorem dL_law_809 : decode cL_law 809 = .ok (.iload 4, 2) := by decide +kernel
theorem dL_law_811 : decode cL_law 811 = .ok (.iconst 2, 1) := by decide +kernel
theorem dL_law_812 : decode cL_law 812 = .ok (.iadd, 1) := by decide +kernel
theorem dL_law_813 : decode cL_law 813 = .ok (.iaload, 1) := by decide +kernel
theorem dL_law_814 : decode cL_law 814 = .ok (.aload_n 0, 1) := by decide +kernel
theorem dL_law_815 : decode cL_law 815 = .ok (.iload 4, 2) := by decide +kernel
theorem dL_law_817 : decode cL_law 817 = .ok (.iconst 3, 1) := by decide +kernel
theorem dL_law_818 : decode cL_law 818 = .ok (.iadd, 1) := by decide +kernel
theorem dL_law_819 : decode cL_law 819 = .ok (.iaload, 1) := by decide +kernel
theorem dL_law_820 : decode cL_law 820 = .ok (.invokevirtual 87, 3) := by decide +kernel
theorem dL_law_823 : decode cL_law 823 = .ok (.if_icmp .eq 948, 3) := by decide +kernel
theorem dL_law_826 : decode cL_law 826 = .ok (.iconst 0, 1) := by decide +kernel
theorem dL_law_827 : decode cL_law 827 = .ok (.ireturn, 1) := by decide +kernel
theorem dL_law_828 : decode cL_law 828 = .ok (.aload_n 1, 1) := by decide +kernel
theorem dL_law_829 : decode cL_law 829 = .ok (.aload_n 0, 1) := by decide +kernel
theorem dL_law_830 : decode cL_law 830 = .ok (.iload 4, 2) := by decide +kernel
theorem dL_law_832 : decode cL_law 832 = .ok (.iconst 1, 1) := by decide +kernel
theorem dL_law_833 : decode cL_law 833 = .ok (.iadd, 1) := by decide +kernel
theorem dL_law_834 : decode cL_law 834 = .ok (.iaload, 1) := by decide +kernel
theorem dL_law_835 : decode cL_law 835 = .ok (.aload_n 0, 1) := by decide +kernel
theorem dL_law_836 : decode cL_law 836 = .ok (.iload 4, 2) := by decide +kernel
theorem dL_law_838 : decode cL_law 838 = .ok (.iconst 2, 1) := by decide +kernel
theorem dL_law_839 : decode cL_law 839 = .ok (.iadd, 1) := by decide +kernel
theorem dL_law_840 : decode cL_law 840 = .ok (.iaload, 1) := by decide +kernel
theorem dL_law_841 : decode cL_law 841 = .ok (.invokevirtual 88, 3) := by decide +kernel
theorem dL_law_844 : decode cL_law 844 = .ok (.aload_n 2, 1) := by decide +kernel
theorem dL_law_845 : decode cL_law 845 = .ok (.aload_n 0, 1) := by decide +kernel
theorem dL_law_846 : decode cL_law 846 = .ok (.iload 4, 2) := by decide +kernel
theorem dL_law_848 : decode cL_law 848 = .ok (.iconst 1, 1) := by decide +kernel
theorem dL_law_849 : decode cL_law 849 = .ok (.iadd, 1) := by decide +kernel
theorem dL_law_850 : decode cL_law 850 = .ok (.iaload, 1) := by decide +kernel
theorem dL_law_851 : decode cL_law 851 = .ok (.aload_n 0, 1) := by decide +kernel
theorem dL_law_852 : decode cL_law 852 = .ok (.iload 4, 2) := by decide +kernel
theorem dL_law_854 : decode cL_law 854 = .ok (.iconst 2, 1) := by decide +kernel
theorem dL_law_855 : decode cL_law 855 = .ok (.iadd, 1) := by decide +kernel
theorem dL_law_856 : decode cL_law 856 = .ok (.iaload, 1) := by decide +kernel
theorem dL_law_857 : decode cL_law 857 = .ok (.invokevirtual 91, 3) := by decide +kernel
theorem dL_law_860 : decode cL_law 860 = .ok (.if_icmp .eq 911, 3) := by decide +kernel
theorem dL_law_863 : decode cL_law 863 = .ok (.iconst 0, 1) := by decide +kernel
theorem dL_law_864 : decode cL_law 864 = .ok (.ireturn, 1) := by decide +kernel
theorem dL_law_865 : decode cL_law 865 = .ok (.aload_n 1, 1) := by decide +kernel
theorem dL_law_866 : decode cL_law 866 = .ok (.aload_n 0, 1) := by decide +kernel
theorem dL_law_867 : decode cL_law 867 = .ok (.iload 4, 2) := by decide +kernel
theorem dL_law_869 : decode cL_law 869 = .ok (.iconst 1, 1) := by decide +kernel
theorem dL_law_870 : decode cL_law 870 = .ok (.iadd, 1) := by decide +kernel
theorem dL_law_871 : decode cL_law 871 = .ok (.iaload, 1) := by decide +kernel
theorem dL_law_872 : decode cL_law 872 = .ok (.aload_n 0, 1) := by decide +kernel
theorem dL_law_873 : decode cL_law 873 = .ok (.iload 4, 2) := by decide +kernel
theorem dL_law_875 : decode cL_law 875 = .ok (.iconst 2, 1) := by decide +kernel
theorem dL_law_876 : decode cL_law 876 = .ok (.iadd, 1) := by decide +kernel
theorem dL_law_877 : decode cL_law 877 = .ok (.iaload, 1) := by decide +kernel
theorem dL_law_878 : decode cL_law 878 = .ok (.invokevirtual 92, 3) := by decide +kernel
theorem dL_law_881 : decode cL_law 881 = .ok (.aload_n 2, 1) := by decide +kernel
theorem dL_law_882 : decode cL_law 882 = .ok (.aload_n 0, 1) := by decide +kernel
theorem dL_law_883 : decode cL_law 883 = .ok (.iload 4, 2) := by decide +kernel
theorem dL_law_885 : decode cL_law 885 = .ok (.iconst 1, 1) := by decide +kernel
theorem dL_law_886 : decode cL_law 886 = .ok (.iadd, 1) := by decide +kernel
theorem dL_law_887 : decode cL_law 887 = .ok (.iaload, 1) := by decide +kernel
theorem dL_law_888 : decode cL_law 888 = .ok (.aload_n 0, 1) := by decide +kernel
theorem dL_law_889 : decode cL_law 889 = .ok (.iload 4, 2) := by decide +kernel
theorem dL_law_891 : decode cL_law 891 = .ok (.iconst 2, 1) := by decide +kernel
theorem dL_law_892 : decode cL_law 892 = .ok (.iadd, 1) := by decide +kernel
theorem dL_law_893 : decode cL_law 893 = .ok (.iaload, 1) := by decide +kernel
theorem dL_law_894 : decode cL_law 894 = .ok (.invokevirtual 95, 3) := by decide +kernel
theorem dL_law_897 : decode cL_law 897 = .ok (.if_icmp .eq 874, 3) := by decide +kernel
theorem dL_law_900 : decode cL_law 900 = .ok (.iconst 0, 1) := by decide +kernel
theorem dL_law_901 : decode cL_law 901 = .ok (.ireturn, 1) := by decide +kernel
theorem dL_law_902 : decode cL_law 902 = .ok (.aload_n 1, 1) := by decide +kernel
theorem dL_law_903 : decode cL_law 903 = .ok (.aload_n 0, 1) := by decide +kernel
theorem dL_law_904 : decode cL_law 904 = .ok (.iload 4, 2) := by decide +kernel
theorem dL_law_906 : decode cL_law 906 = .ok (.iconst 1, 1) := by decide +kernel
theorem dL_law_907 : decode cL_law 907 = .ok (.iadd, 1) := by decide +kernel
theorem dL_law_908 : decode cL_law 908 = .ok (.iaload, 1) := by decide +kernel
theorem dL_law_909 : decode cL_law 909 = .ok (.invokevirtual 96, 3) := by decide +kernel
theorem dL_law_912 : decode cL_law 912 = .ok (.aload_n 2, 1) := by decide +kernel
theorem dL_law_913 : decode cL_law 913 = .ok (.aload_n 0, 1) := by decide +kernel
theorem dL_law_914 : decode cL_law 914 = .ok (.iload 4, 2) := by decide +kernel
theorem dL_law_916 : decode cL_law 916 = .ok (.iconst 1, 1) := by decide +kernel
theorem dL_law_917 : decode cL_law 917 = .ok (.iadd, 1) := by decide +kernel
theorem dL_law_918 : decode cL_law 918 = .ok (.iaload, 1) := by decide +kernel
theorem dL_law_919 : decode cL_law 919 = .ok (.invokevirtual 99, 3) := by decide +kernel
theorem dL_law_922 : decode cL_law 922 = .ok (.if_icmp .eq 849, 3) := by decide +kernel
theorem dL_law_925 : decode cL_law 925 = .ok (.iconst 0, 1) := by decide +kernel
theorem dL_law_926 : decode cL_law 926 = .ok (.ireturn, 1) := by decide +kernel
theorem dL_law_927 : decode cL_law 927 = .ok (.aload_n 1, 1) := by decide +kernel
theorem dL_law_928 : decode cL_law 928 = .ok (.aload_n 0, 1) := by decide +kernel
theorem dL_law_929 : decode cL_law 929 = .ok (.iload 4, 2) := by decide +kernel
theorem dL_law_931 : decode cL_law 931 = .ok (.iconst 1, 1) := by decide +kernel
theorem dL_law_932 : decode cL_law 932 = .ok (.iadd, 1) := by decide +kernel
theorem dL_law_933 : decode cL_law 933 = .ok (.iaload, 1) := by decide +kernel
theorem dL_law_934 : decode cL_law 934 = .ok (.invokevirtual 100, 3) := by decide +kernel
theorem dL_law_937 : decode cL_law 937 = .ok (.aload_n 2, 1) := by decide +kernel
theorem dL_law_938 : decode cL_law 938 = .ok (.aload_n 0, 1) := by decide +kernel
theorem dL_law_939 : decode cL_law 939 = .ok (.iload 4, 2) := by decide +kernel
theorem dL_law_941 : decode cL_law 941 = .ok (.iconst 1, 1) := by decide +kernel
theorem dL_law_942 : decode cL_law 942 = .ok (.iadd, 1) := by decide +kernel
theorem dL_law_943 : decode cL_law 943 = .ok (.iaload, 1) := by decide +kernel
theorem dL_law_944 : decode cL_law 944 = .ok (.invokevirtual 103, 3) := by decide +kernel
theorem dL_law_947 : decode cL_law 947 = .ok (.if_icmp .eq 824, 3) := by decide +kernel
theorem dL_law_950 : decode cL_law 950 = .ok (.iconst 0, 1) := by decide +kernel
theorem dL_law_951 : decode cL_law 951 = .ok (.ireturn, 1) := by decide +kernel
theorem dL_law_952 : decode cL_law 952 = .ok (.aload_n 1, 1) := by decide +kernel
theorem dL_law_953 : decode cL_law 953 = .ok (.aload_n 0, 1) := by decide +kernel
theorem dL_law_954 : decode cL_law 954 = .ok (.iload 4, 2) := by decide +kernel
theorem dL_law_956 : decode cL_law 956 = .ok (.iconst 1, 1) := by decide +kernel
theorem dL_law_957 : decode cL_law 957 = .ok (.iadd, 1) := by decide +kernel
theorem dL_law_958 : decode cL_law 958 = .ok (.iaload, 1) := by decide +kernel
theorem dL_law_959 : decode cL_law 959 = .ok (.aload_n 0, 1) := by decide +kernel
theorem dL_law_960 : decode cL_law 960 = .ok (.iload 4, 2) := by decide +kernel
theorem dL_law_962 : decode cL_law 962 = .ok (.iconst 2, 1) := by decide +kernel
theorem dL_law_963 : decode cL_law 963 = .ok (.iadd, 1) := by decide +kernel
theorem dL_law_964 : decode cL_law 964 = .ok (.iaload, 1) := by decide +kernel
theorem dL_law_965 : decode cL_law 965 = .ok (.invokevirtual 104, 3) := by decide +kernel
theorem dL_law_968 : decode cL_law 968 = .ok (.aload_n 2, 1) := by decide +kernel
theorem dL_law_969 : decode cL_law 969 = .ok (.aload_n 0, 1) := by decide +kernel
theorem dL_law_970 : decode cL_law 970 = .ok (.iload 4, 2) := by decide +kernel
theorem dL_law_972 : decode cL_law 972 = .ok (.iconst 1, 1) := by decide +kernel
theorem dL_law_973 : decode cL_law 973 = .ok (.iadd, 1) := by decide +kernel
theorem dL_law_974 : decode cL_law 974 = .ok (.iaload, 1) := by decide +kernel
theorem dL_law_975 : decode cL_law 975 = .ok (.aload_n 0, 1) := by decide +kernel
theorem dL_law_976 : decode cL_law 976 = .ok (.iload 4, 2) := by decide +kernel
theorem dL_law_978 : decode cL_law 978 = .ok (.iconst 2, 1) := by decide +kernel
theorem dL_law_979 : decode cL_law 979 = .ok (.iadd, 1) := by decide +kernel
theorem dL_law_980 : decode cL_law 980 = .ok (.iaload, 1) := by decide +kernel
theorem dL_law_981 : decode cL_law 981 = .ok (.invokevirtual 107, 3) := by decide +kernel
theorem dL_law_984 : decode cL_law 984 = .ok (.if_icmp .eq 787, 3) := by decide +kernel
theorem dL_law_987 : decode cL_law 987 = .ok (.iconst 0, 1) := by decide +kernel
theorem dL_law_988 : decode cL_law 988 = .ok (.ireturn, 1) := by decide +kernel
theorem dL_law_989 : decode cL_law 989 = .ok (.aload_n 1, 1) := by decide +kernel
theorem dL_law_990 : decode cL_law 990 = .ok (.aload_n 0, 1) := by decide +kernel
theorem dL_law_991 : decode cL_law 991 = .ok (.iload 4, 2) := by decide +kernel
theorem dL_law_993 : decode cL_law 993 = .ok (.iconst 1, 1) := by decide +kernel
theorem dL_law_994 : decode cL_law 994 = .ok (.iadd, 1) := by decide +kernel
theorem dL_law_995 : decode cL_law 995 = .ok (.iaload, 1) := by decide +kernel
theorem dL_law_996 : decode cL_law 996 = .ok (.aload_n 0, 1) := by decide +kernel
theorem dL_law_997 : decode cL_law 997 = .ok (.iload 4, 2) := by decide +kernel
theorem dL_law_999 : decode cL_law 999 = .ok (.iconst 2, 1) := by decide +kernel
theorem dL_law_1000 : decode cL_law 1000 = .ok (.iadd, 1) := by decide +kernel
theorem dL_law_1001 : decode cL_law 1001 = .ok (.iaload, 1) := by decide +kernel
theorem dL_law_1002 : decode cL_law 1002 = .ok (.aload_n 0, 1) := by decide +kernel
theorem dL_law_1003 : decode cL_law 1003 = .ok (.iload 4, 2) := by decide +kernel
theorem dL_law_1005 : decode cL_law 1005 = .ok (.iconst 3, 1) := by decide +kernel
theorem dL_law_1006 : decode cL_law 1006 = .ok (.iadd, 1) := by decide +kernel
theorem dL_law_1007 : decode cL_law 1007 = .ok (.iaload, 1) := by decide +kernel
theorem dL_law_1008 : decode cL_law 1008 = .ok (.invokevirtual 108, 3) := by decide +kernel
theorem dL_law_1011 : decode cL_law 1011 = .ok (.aload_n 2, 1) := by decide +kernel
theorem dL_law_1012 : decode cL_law 1012 = .ok (.aload_n 0, 1) := by decide +kernel
theorem dL_law_1013 : decode cL_law 1013 = .ok (.iload 4, 2) := by decide +kernel
theorem dL_law_1015 : decode cL_law 1015 = .ok (.iconst 1, 1) := by decide +kernel
theorem dL_law_1016 : decode cL_law 1016 = .ok (.iadd, 1) := by decide +kernel
theorem dL_law_1017 : decode cL_law 1017 = .ok (.iaload, 1) := by decide +kernel
theorem dL_law_1018 : decode cL_law 1018 = .ok (.aload_n 0, 1) := by decide +kernel
theorem dL_law_1019 : decode cL_law 1019 = .ok (.iload 4, 2) := by decide +kernel
theorem dL_law_1021 : decode cL_law 1021 = .ok (.iconst 2, 1) := by decide +kernel
theorem dL_law_1022 : decode cL_law 1022 = .ok (.iadd, 1) := by decide +kernel
theorem dL_law_1023 : decode cL_law 1023 = .ok (.iaload, 1) := by decide +kernel
theorem dL_law_1024 : decode cL_law 1024 = .ok (.aload_n 0, 1) := by decide +kernel
theorem dL_law_1025 : decode cL_law 1025 = .ok (.iload 4, 2) := by decide +kernel
theorem dL_law_1027 : decode cL_law 1027 = .ok (.iconst 3, 1) := by decide +kernel
theorem dL_law_1028 : decode cL_law 1028 = .ok (.iadd, 1) := by decide +kernel
theorem dL_law_1029 : decode cL_law 1029 = .ok (.iaload, 1) := by decide +kernel
theorem dL_law_1030 : decode cL_law 1030 = .ok (.invokevirtual 111, 3) := by decide +kernel
theorem dL_law_1033 : decode cL_law 1033 = .ok (.if_icmp .eq 738, 3) := by decide +kernel
theorem dL_law_1036 : decode cL_law 1036 = .ok (.iconst 0, 1) := by decide +kernel
theorem dL_law_1037 : decode cL_law 1037 = .ok (.ireturn, 1) := by decide +kernel
theorem dL_law_1038 : decode cL_law 1038 = .ok (.aload_n 1, 1) := by decide +kernel
theorem dL_law_1039 : decode cL_law 1039 = .ok (.aload_n 0, 1) := by decide +kernel
theorem dL_law_1040 : decode cL_law 1040 = .ok (.iload 4, 2) := by decide +kernel
theorem dL_law_1042 : decode cL_law 1042 = .ok (.iconst 1, 1) := by decide +kernel
theorem dL_law_1043 : decode cL_law 1043 = .ok (.iadd, 1) := by decide +kernel
theorem dL_law_1044 : decode cL_law 1044 = .ok (.iaload, 1) := by decide +kernel
theorem dL_law_1045 : decode cL_law 1045 = .ok (.aload_n 0, 1) := by decide +kernel
theorem dL_law_1046 : decode cL_law 1046 = .ok (.iload 4, 2) := by decide +kernel
theorem dL_law_1048 : decode cL_law 1048 = .ok (.iconst 2, 1) := by decide +kernel
theorem dL_law_1049 : decode cL_law 1049 = .ok (.iadd, 1) := by decide +kernel
theorem dL_law_1050 : decode cL_law 1050 = .ok (.iaload, 1) := by decide +kernel
theorem dL_law_1051 : decode cL_law 1051 = .ok (.aload_n 0, 1) := by decide +kernel
theorem dL_law_1052 : decode cL_law 1052 = .ok (.iload 4, 2) := by decide +kernel
theorem dL_law_1054 : decode cL_law 1054 = .ok (.iconst 3, 1) := by decide +kernel
theorem dL_law_1055 : decode cL_law 1055 = .ok (.iadd, 1) := by decide +kernel
theorem dL_law_1056 : decode cL_law 1056 = .ok (.iaload, 1) := by decide +kernel
theorem dL_law_1057 : decode cL_law 1057 = .ok (.invokevirtual 112, 3) := by decide +kernel
theorem dL_law_1060 : decode cL_law 1060 = .ok (.aload_n 2, 1) := by decide +kernel
theorem dL_law_1061 : decode cL_law 1061 = .ok (.aload_n 0, 1) := by decide +kernel
theorem dL_law_1062 : decode cL_law 1062 = .ok (.iload 4, 2) := by decide +kernel
theorem dL_law_1064 : decode cL_law 1064 = .ok (.iconst 1, 1) := by decide +kernel
theorem dL_law_1065 : decode cL_law 1065 = .ok (.iadd, 1) := by decide +kernel
theorem dL_law_1066 : decode cL_law 1066 = .ok (.iaload, 1) := by decide +kernel
theorem dL_law_1067 : decode cL_law 1067 = .ok (.aload_n 0, 1) := by decide +kernel
theorem dL_law_1068 : decode cL_law 1068 = .ok (.iload 4, 2) := by decide +kernel
theorem dL_law_1070 : decode cL_law 1070 = .ok (.iconst 2, 1) := by decide +kernel
theorem dL_law_1071 : decode cL_law 1071 = .ok (.iadd, 1) := by decide +kernel
theorem dL_law_1072 : decode cL_law 1072 = .ok (.iaload, 1) := by decide +kernel
theorem dL_law_1073 : decode cL_law 1073 = .ok (.aload_n 0, 1) := by decide +kernel
theorem dL_law_1074 : decode cL_law 1074 = .ok (.iload 4, 2) := by decide +kernel
theorem dL_law_1076 : decode cL_law 1076 = .ok (.iconst 3, 1) := by decide +kernel
theorem dL_law_1077 : decode cL_law 1077 = .ok (.iadd, 1) := by decide +kernel
theorem dL_law_1078 : decode cL_law 1078 = .ok (.iaload, 1) := by decide +kernel
theorem dL_law_1079 : decode cL_law 1079 = .ok (.invokevirtual 115, 3) := by decide +kernel
theorem dL_law_1082 : decode cL_law 1082 = .ok (.if_icmp .eq 689, 3) := by decide +kernel
theorem dL_law_1085 : decode cL_law 1085 = .ok (.iconst 0, 1) := by decide +kernel
theorem dL_law_1086 : decode cL_law 1086 = .ok (.ireturn, 1) := by decide +kernel
theorem dL_law_1087 : decode cL_law 1087 = .ok (.aload_n 1, 1) := by decide +kernel
theorem dL_law_1088 : decode cL_law 1088 = .ok (.aload_n 0, 1) := by decide +kernel
theorem dL_law_1089 : decode cL_law 1089 = .ok (.iload 4, 2) := by decide +kernel
theorem dL_law_1091 : decode cL_law 1091 = .ok (.iconst 1, 1) := by decide +kernel
theorem dL_law_1092 : decode cL_law 1092 = .ok (.iadd, 1) := by decide +kernel
theorem dL_law_1093 : decode cL_law 1093 = .ok (.iaload, 1) := by decide +kernel
theorem dL_law_1094 : decode cL_law 1094 = .ok (.aload_n 0, 1) := by decide +kernel
theorem dL_law_1095 : decode cL_law 1095 = .ok (.iload 4, 2) := by decide +kernel
theorem dL_law_1097 : decode cL_law 1097 = .ok (.iconst 2, 1) := by decide +kernel
theorem dL_law_1098 : decode cL_law 1098 = .ok (.iadd, 1) := by decide +kernel
theorem dL_law_1099 : decode cL_law 1099 = .ok (.iaload, 1) := by decide +kernel
theorem dL_law_1100 : decode cL_law 1100 = .ok (.aload_n 0, 1) := by decide +kernel
theorem dL_law_1101 : decode cL_law 1101 = .ok (.iload 4, 2) := by decide +kernel
theorem dL_law_1103 : decode cL_law 1103 = .ok (.iconst 3, 1) := by decide +kernel
theorem dL_law_1104 : decode cL_law 1104 = .ok (.iadd, 1) := by decide +kernel
theorem dL_law_1105 : decode cL_law 1105 = .ok (.iaload, 1) := by decide +kernel
theorem dL_law_1106 : decode cL_law 1106 = .ok (.aload_n 0, 1) := by decide +kernel
theorem dL_law_1107 : decode cL_law 1107 = .ok (.iload 4, 2) := by decide +kernel
theorem dL_law_1109 : decode cL_law 1109 = .ok (.iconst 4, 1) := by decide +kernel
theorem dL_law_1110 : decode cL_law 1110 = .ok (.iadd, 1) := by decide +kernel
theorem dL_law_1111 : decode cL_law 1111 = .ok (.iaload, 1) := by decide +kernel
theorem dL_law_1112 : decode cL_law 1112 = .ok (.invokevirtual 116, 3) := by decide +kernel
theorem dL_law_1115 : decode cL_law 1115 = .ok (.aload_n 2, 1) := by decide +kernel
theorem dL_law_1116 : decode cL_law 1116 = .ok (.aload_n 0, 1) := by decide +kernel
theorem dL_law_1117 : decode cL_law 1117 = .ok (.iload 4, 2) := by decide +kernel
theorem dL_law_1119 : decode cL_law 1119 = .ok (.iconst 1, 1) := by decide +kernel
theorem dL_law_1120 : decode cL_law 1120 = .ok (.iadd, 1) := by decide +kernel
theorem dL_law_1121 : decode cL_law 1121 = .ok (.iaload, 1) := by decide +kernel
theorem dL_law_1122 : decode cL_law 1122 = .ok (.aload_n 0, 1) := by decide +kernel
theorem dL_law_1123 : decode cL_law 1123 = .ok (.iload 4, 2) := by decide +kernel
theorem dL_law_1125 : decode cL_law 1125 = .ok (.iconst 2, 1) := by decide +kernel
theorem dL_law_1126 : decode cL_law 1126 = .ok (.iadd, 1) := by decide +kernel
theorem dL_law_1127 : decode cL_law 1127 = .ok (.iaload, 1) := by decide +kernel
theorem dL_law_1128 : decode cL_law 1128 = .ok (.aload_n 0, 1) := by decide +kernel
theorem dL_law_1129 : decode cL_law 1129 = .ok (.iload 4, 2) := by decide +kernel
theorem dL_law_1131 : decode cL_law 1131 = .ok (.iconst 3, 1) := by decide +kernel
theorem dL_law_1132 : decode cL_law 1132 = .ok (.iadd, 1) := by decide +kernel
theorem dL_law_1133 : decode cL_law 1133 = .ok (.iaload, 1) := by decide +kernel
theorem dL_law_1134 : decode cL_law 1134 = .ok (.aload_n 0, 1) := by decide +kernel
theorem dL_law_1135 : decode cL_law 1135 = .ok (.iload 4, 2) := by decide +kernel
theorem dL_law_1137 : decode cL_law 1137 = .ok (.iconst 4, 1) := by decide +kernel
theorem dL_law_1138 : decode cL_law 1138 = .ok (.iadd, 1) := by decide +kernel
theorem dL_law_1139 : decode cL_law 1139 = .ok (.iaload, 1) := by decide +kernel
theorem dL_law_1140 : decode cL_law 1140 = .ok (.invokevirtual 120, 3) := by decide +kernel
theorem dL_law_1143 : decode cL_law 1143 = .ok (.if_icmp .eq 628, 3) := by decide +kernel
theorem dL_law_1146 : decode cL_law 1146 = .ok (.iconst 0, 1) := by decide +kernel
theorem dL_law_1147 : decode cL_law 1147 = .ok (.ireturn, 1) := by decide +kernel
theorem dL_law_1148 : decode cL_law 1148 = .ok (.aload_n 1, 1) := by decide +kernel
theorem dL_law_1149 : decode cL_law 1149 = .ok (.aload_n 0, 1) := by decide +kernel
theorem dL_law_1150 : decode cL_law 1150 = .ok (.iload 4, 2) := by decide +kernel
theorem dL_law_1152 : decode cL_law 1152 = .ok (.iconst 1, 1) := by decide +kernel
theorem dL_law_1153 : decode cL_law 1153 = .ok (.iadd, 1) := by decide +kernel
theorem dL_law_1154 : decode cL_law 1154 = .ok (.iaload, 1) := by decide +kernel
theorem dL_law_1155 : decode cL_law 1155 = .ok (.aload_n 0, 1) := by decide +kernel
theorem dL_law_1156 : decode cL_law 1156 = .ok (.iload 4, 2) := by decide +kernel
theorem dL_law_1158 : decode cL_law 1158 = .ok (.iconst 2, 1) := by decide +kernel
theorem dL_law_1159 : decode cL_law 1159 = .ok (.iadd, 1) := by decide +kernel
theorem dL_law_1160 : decode cL_law 1160 = .ok (.iaload, 1) := by decide +kernel
theorem dL_law_1161 : decode cL_law 1161 = .ok (.aload_n 0, 1) := by decide +kernel
theorem dL_law_1162 : decode cL_law 1162 = .ok (.iload 4, 2) := by decide +kernel
theorem dL_law_1164 : decode cL_law 1164 = .ok (.iconst 3, 1) := by decide +kernel
theorem dL_law_1165 : decode cL_law 1165 = .ok (.iadd, 1) := by decide +kernel
theorem dL_law_1166 : decode cL_law 1166 = .ok (.iaload, 1) := by decide +kernel
theorem dL_law_1167 : decode cL_law 1167 = .ok (.aload_n 0, 1) := by decide +kernel
theorem dL_law_1168 : decode cL_law 1168 = .ok (.iload 4, 2) := by decide +kernel
theorem dL_law_1170 : decode cL_law 1170 = .ok (.iconst 4, 1) := by decide +kernel
theorem dL_law_1171 : decode cL_law 1171 = .ok (.iadd, 1) := by decide +kernel
theorem dL_law_1172 : decode cL_law 1172 = .ok (.iaload, 1) := by decide +kernel
theorem dL_law_1173 : decode cL_law 1173 = .ok (.aload_n 0, 1) := by decide +kernel
theorem dL_law_1174 : decode cL_law 1174 = .ok (.iload 4, 2) := by decide +kernel
theorem dL_law_1176 : decode cL_law 1176 = .ok (.iconst 5, 1) := by decide +kernel
theorem dL_law_1177 : decode cL_law 1177 = .ok (.iadd, 1) := by decide +kernel
theorem dL_law_1178 : decode cL_law 1178 = .ok (.iaload, 1) := by decide +kernel
theorem dL_law_1179 : decode cL_law 1179 = .ok (.invokevirtual 121, 3) := by decide +kernel
theorem dL_law_1182 : decode cL_law 1182 = .ok (.aload_n 2, 1) := by decide +kernel
theorem dL_law_1183 : decode cL_law 1183 = .ok (.aload_n 0, 1) := by decide +kernel
theorem dL_law_1184 : decode cL_law 1184 = .ok (.iload 4, 2) := by decide +kernel
theorem dL_law_1186 : decode cL_law 1186 = .ok (.iconst 1, 1) := by decide +kernel
theorem dL_law_1187 : decode cL_law 1187 = .ok (.iadd, 1) := by decide +kernel
theorem dL_law_1188 : decode cL_law 1188 = .ok (.iaload, 1) := by decide +kernel
theorem dL_law_1189 : decode cL_law 1189 = .ok (.aload_n 0, 1) := by decide +kernel
theorem dL_law_1190 : decode cL_law 1190 = .ok (.iload 4, 2) := by decide +kernel
theorem dL_law_1192 : decode cL_law 1192 = .ok (.iconst 2, 1) := by decide +kernel
theorem dL_law_1193 : decode cL_law 1193 = .ok (.iadd, 1) := by decide +kernel
theorem dL_law_1194 : decode cL_law 1194 = .ok (.iaload, 1) := by decide +kernel
theorem dL_law_1195 : decode cL_law 1195 = .ok (.aload_n 0, 1) := by decide +kernel
theorem dL_law_1196 : decode cL_law 1196 = .ok (.iload 4, 2) := by decide +kernel
theorem dL_law_1198 : decode cL_law 1198 = .ok (.iconst 3, 1) := by decide +kernel
theorem dL_law_1199 : decode cL_law 1199 = .ok (.iadd, 1) := by decide +kernel
theorem dL_law_1200 : decode cL_law 1200 = .ok (.iaload, 1) := by decide +kernel
theorem dL_law_1201 : decode cL_law 1201 = .ok (.aload_n 0, 1) := by decide +kernel
theorem dL_law_1202 : decode cL_law 1202 = .ok (.iload 4, 2) := by decide +kernel
theorem dL_law_1204 : decode cL_law 1204 = .ok (.iconst 4, 1) := by decide +kernel
theorem dL_law_1205 : decode cL_law 1205 = .ok (.iadd, 1) := by decide +kernel
theorem dL_law_1206 : decode cL_law 1206 = .ok (.iaload, 1) := by decide +kernel
theorem dL_law_1207 : decode cL_law 1207 = .ok (.aload_n 0, 1) := by decide +kernel
theorem dL_law_1208 : decode cL_law 1208 = .ok (.iload 4, 2) := by decide +kernel
theorem dL_law_1210 : decode cL_law 1210 = .ok (.iconst 5, 1) := by decide +kernel
theorem dL_law_1211 : decode cL_law 1211 = .ok (.iadd, 1) := by decide +kernel
theorem dL_law_1212 : decode cL_law 1212 = .ok (.iaload, 1) := by decide +kernel
theorem dL_law_1213 : decode cL_law 1213 = .ok (.invokevirtual 125, 3) := by decide +kernel
theorem dL_law_1216 : decode cL_law 1216 = .ok (.lcmp, 1) := by decide +kernel
theorem dL_law_1217 : decode cL_law 1217 = .ok (.ifCond .eq 554, 3) := by decide +kernel
theorem dL_law_1220 : decode cL_law 1220 = .ok (.iconst 0, 1) := by decide +kernel
theorem dL_law_1221 : decode cL_law 1221 = .ok (.ireturn, 1) := by decide +kernel
theorem dL_law_1222 : decode cL_law 1222 = .ok (.aload_n 1, 1) := by decide +kernel
theorem dL_law_1223 : decode cL_law 1223 = .ok (.aload_n 0, 1) := by decide +kernel
theorem dL_law_1224 : decode cL_law 1224 = .ok (.iload 4, 2) := by decide +kernel
theorem dL_law_1226 : decode cL_law 1226 = .ok (.iconst 1, 1) := by decide +kernel
theorem dL_law_1227 : decode cL_law 1227 = .ok (.iadd, 1) := by decide +kernel
theorem dL_law_1228 : decode cL_law 1228 = .ok (.iaload, 1) := by decide +kernel
theorem dL_law_1229 : decode cL_law 1229 = .ok (.aload_n 0, 1) := by decide +kernel
theorem dL_law_1230 : decode cL_law 1230 = .ok (.iload 4, 2) := by decide +kernel
theorem dL_law_1232 : decode cL_law 1232 = .ok (.iconst 2, 1) := by decide +kernel
theorem dL_law_1233 : decode cL_law 1233 = .ok (.iadd, 1) := by decide +kernel
theorem dL_law_1234 : decode cL_law 1234 = .ok (.iaload, 1) := by decide +kernel
theorem dL_law_1235 : decode cL_law 1235 = .ok (.invokevirtual 126, 3) := by decide +kernel
theorem dL_law_1238 : decode cL_law 1238 = .ok (.aload_n 2, 1) := by decide +kernel
theorem dL_law_1239 : decode cL_law 1239 = .ok (.aload_n 0, 1) := by decide +kernel
theorem dL_law_1240 : decode cL_law 1240 = .ok (.iload 4, 2) := by decide +kernel
theorem dL_law_1242 : decode cL_law 1242 = .ok (.iconst 1, 1) := by decide +kernel
theorem dL_law_1243 : decode cL_law 1243 = .ok (.iadd, 1) := by decide +kernel
theorem dL_law_1244 : decode cL_law 1244 = .ok (.iaload, 1) := by decide +kernel
theorem dL_law_1245 : decode cL_law 1245 = .ok (.aload_n 0, 1) := by decide +kernel
theorem dL_law_1246 : decode cL_law 1246 = .ok (.iload 4, 2) := by decide +kernel
theorem dL_law_1248 : decode cL_law 1248 = .ok (.iconst 2, 1) := by decide +kernel
theorem dL_law_1249 : decode cL_law 1249 = .ok (.iadd, 1) := by decide +kernel
theorem dL_law_1250 : decode cL_law 1250 = .ok (.iaload, 1) := by decide +kernel
theorem dL_law_1251 : decode cL_law 1251 = .ok (.invokevirtual 129, 3) := by decide +kernel
theorem dL_law_1254 : decode cL_law 1254 = .ok (.lcmp, 1) := by decide +kernel
theorem dL_law_1255 : decode cL_law 1255 = .ok (.ifCond .eq 516, 3) := by decide +kernel
theorem dL_law_1258 : decode cL_law 1258 = .ok (.iconst 0, 1) := by decide +kernel
theorem dL_law_1259 : decode cL_law 1259 = .ok (.ireturn, 1) := by decide +kernel
theorem dL_law_1260 : decode cL_law 1260 = .ok (.aload_n 1, 1) := by decide +kernel
theorem dL_law_1261 : decode cL_law 1261 = .ok (.aload_n 0, 1) := by decide +kernel
theorem dL_law_1262 : decode cL_law 1262 = .ok (.iload 4, 2) := by decide +kernel
theorem dL_law_1264 : decode cL_law 1264 = .ok (.iconst 1, 1) := by decide +kernel
theorem dL_law_1265 : decode cL_law 1265 = .ok (.iadd, 1) := by decide +kernel
theorem dL_law_1266 : decode cL_law 1266 = .ok (.iaload, 1) := by decide +kernel
theorem dL_law_1267 : decode cL_law 1267 = .ok (.invokevirtual 130, 3) := by decide +kernel
theorem dL_law_1270 : decode cL_law 1270 = .ok (.aload_n 2, 1) := by decide +kernel
theorem dL_law_1271 : decode cL_law 1271 = .ok (.aload_n 0, 1) := by decide +kernel
theorem dL_law_1272 : decode cL_law 1272 = .ok (.iload 4, 2) := by decide +kernel
theorem dL_law_1274 : decode cL_law 1274 = .ok (.iconst 1, 1) := by decide +kernel
theorem dL_law_1275 : decode cL_law 1275 = .ok (.iadd, 1) := by decide +kernel
theorem dL_law_1276 : decode cL_law 1276 = .ok (.iaload, 1) := by decide +kernel
theorem dL_law_1277 : decode cL_law 1277 = .ok (.invokevirtual 133, 3) := by decide +kernel
theorem dL_law_1280 : decode cL_law 1280 = .ok (.if_icmp .eq 491, 3) := by decide +kernel
theorem dL_law_1283 : decode cL_law 1283 = .ok (.iconst 0, 1) := by decide +kernel
theorem dL_law_1284 : decode cL_law 1284 = .ok (.ireturn, 1) := by decide +kernel
theorem dL_law_1285 : decode cL_law 1285 = .ok (.aload_n 1, 1) := by decide +kernel
theorem dL_law_1286 : decode cL_law 1286 = .ok (.aload_n 0, 1) := by decide +kernel
theorem dL_law_1287 : decode cL_law 1287 = .ok (.iload 4, 2) := by decide +kernel
theorem dL_law_1289 : decode cL_law 1289 = .ok (.iconst 1, 1) := by decide +kernel
theorem dL_law_1290 : decode cL_law 1290 = .ok (.iadd, 1) := by decide +kernel
theorem dL_law_1291 : decode cL_law 1291 = .ok (.iaload, 1) := by decide +kernel
theorem dL_law_1292 : decode cL_law 1292 = .ok (.aload_n 0, 1) := by decide +kernel
theorem dL_law_1293 : decode cL_law 1293 = .ok (.iload 4, 2) := by decide +kernel
theorem dL_law_1295 : decode cL_law 1295 = .ok (.iconst 2, 1) := by decide +kernel
theorem dL_law_1296 : decode cL_law 1296 = .ok (.iadd, 1) := by decide +kernel
theorem dL_law_1297 : decode cL_law 1297 = .ok (.iaload, 1) := by decide +kernel
theorem dL_law_1298 : decode cL_law 1298 = .ok (.invokevirtual 134, 3) := by decide +kernel
theorem dL_law_1301 : decode cL_law 1301 = .ok (.aload_n 2, 1) := by decide +kernel
theorem dL_law_1302 : decode cL_law 1302 = .ok (.aload_n 0, 1) := by decide +kernel
theorem dL_law_1303 : decode cL_law 1303 = .ok (.iload 4, 2) := by decide +kernel
theorem dL_law_1305 : decode cL_law 1305 = .ok (.iconst 1, 1) := by decide +kernel
theorem dL_law_1306 : decode cL_law 1306 = .ok (.iadd, 1) := by decide +kernel
theorem dL_law_1307 : decode cL_law 1307 = .ok (.iaload, 1) := by decide +kernel
theorem dL_law_1308 : decode cL_law 1308 = .ok (.aload_n 0, 1) := by decide +kernel
theorem dL_law_1309 : decode cL_law 1309 = .ok (.iload 4, 2) := by decide +kernel
theorem dL_law_1311 : decode cL_law 1311 = .ok (.iconst 2, 1) := by decide +kernel
theorem dL_law_1312 : decode cL_law 1312 = .ok (.iadd, 1) := by decide +kernel
theorem dL_law_1313 : decode cL_law 1313 = .ok (.iaload, 1) := by decide +kernel
theorem dL_law_1314 : decode cL_law 1314 = .ok (.invokevirtual 137, 3) := by decide +kernel
theorem dL_law_1317 : decode cL_law 1317 = .ok (.if_icmp .eq 454, 3) := by decide +kernel
theorem dL_law_1320 : decode cL_law 1320 = .ok (.iconst 0, 1) := by decide +kernel
theorem dL_law_1321 : decode cL_law 1321 = .ok (.ireturn, 1) := by decide +kernel
theorem dL_law_1322 : decode cL_law 1322 = .ok (.aload_n 1, 1) := by decide +kernel
theorem dL_law_1323 : decode cL_law 1323 = .ok (.aload_n 0, 1) := by decide +kernel
theorem dL_law_1324 : decode cL_law 1324 = .ok (.iload 4, 2) := by decide +kernel
theorem dL_law_1326 : decode cL_law 1326 = .ok (.iconst 1, 1) := by decide +kernel
theorem dL_law_1327 : decode cL_law 1327 = .ok (.iadd, 1) := by decide +kernel
theorem dL_law_1328 : decode cL_law 1328 = .ok (.iaload, 1) := by decide +kernel
theorem dL_law_1329 : decode cL_law 1329 = .ok (.aload_n 0, 1) := by decide +kernel
theorem dL_law_1330 : decode cL_law 1330 = .ok (.iload 4, 2) := by decide +kernel
theorem dL_law_1332 : decode cL_law 1332 = .ok (.iconst 2, 1) := by decide +kernel
theorem dL_law_1333 : decode cL_law 1333 = .ok (.iadd, 1) := by decide +kernel
theorem dL_law_1334 : decode cL_law 1334 = .ok (.iaload, 1) := by decide +kernel
theorem dL_law_1335 : decode cL_law 1335 = .ok (.aload_n 0, 1) := by decide +kernel
theorem dL_law_1336 : decode cL_law 1336 = .ok (.iload 4, 2) := by decide +kernel
theorem dL_law_1338 : decode cL_law 1338 = .ok (.iconst 3, 1) := by decide +kernel
theorem dL_law_1339 : decode cL_law 1339 = .ok (.iadd, 1) := by decide +kernel
theorem dL_law_1340 : decode cL_law 1340 = .ok (.iaload, 1) := by decide +kernel
theorem dL_law_1341 : decode cL_law 1341 = .ok (.invokevirtual 138, 3) := by decide +kernel
theorem dL_law_1344 : decode cL_law 1344 = .ok (.aload_n 2, 1) := by decide +kernel
theorem dL_law_1345 : decode cL_law 1345 = .ok (.aload_n 0, 1) := by decide +kernel
theorem dL_law_1346 : decode cL_law 1346 = .ok (.iload 4, 2) := by decide +kernel
theorem dL_law_1348 : decode cL_law 1348 = .ok (.iconst 1, 1) := by decide +kernel
theorem dL_law_1349 : decode cL_law 1349 = .ok (.iadd, 1) := by decide +kernel
theorem dL_law_1350 : decode cL_law 1350 = .ok (.iaload, 1) := by decide +kernel
theorem dL_law_1351 : decode cL_law 1351 = .ok (.aload_n 0, 1) := by decide +kernel
theorem dL_law_1352 : decode cL_law 1352 = .ok (.iload 4, 2) := by decide +kernel
theorem dL_law_1354 : decode cL_law 1354 = .ok (.iconst 2, 1) := by decide +kernel
theorem dL_law_1355 : decode cL_law 1355 = .ok (.iadd, 1) := by decide +kernel
theorem dL_law_1356 : decode cL_law 1356 = .ok (.iaload, 1) := by decide +kernel
theorem dL_law_1357 : decode cL_law 1357 = .ok (.aload_n 0, 1) := by decide +kernel
theorem dL_law_1358 : decode cL_law 1358 = .ok (.iload 4, 2) := by decide +kernel
theorem dL_law_1360 : decode cL_law 1360 = .ok (.iconst 3, 1) := by decide +kernel
theorem dL_law_1361 : decode cL_law 1361 = .ok (.iadd, 1) := by decide +kernel
theorem dL_law_1362 : decode cL_law 1362 = .ok (.iaload, 1) := by decide +kernel
theorem dL_law_1363 : decode cL_law 1363 = .ok (.invokevirtual 141, 3) := by decide +kernel
theorem dL_law_1366 : decode cL_law 1366 = .ok (.if_icmp .eq 405, 3) := by decide +kernel
theorem dL_law_1369 : decode cL_law 1369 = .ok (.iconst 0, 1) := by decide +kernel
theorem dL_law_1370 : decode cL_law 1370 = .ok (.ireturn, 1) := by decide +kernel
theorem dL_law_1371 : decode cL_law 1371 = .ok (.aload_n 1, 1) := by decide +kernel
theorem dL_law_1372 : decode cL_law 1372 = .ok (.invokevirtual 142, 3) := by decide +kernel
theorem dL_law_1375 : decode cL_law 1375 = .ok (.aload_n 2, 1) := by decide +kernel
theorem dL_law_1376 : decode cL_law 1376 = .ok (.invokevirtual 146, 3) := by decide +kernel
theorem dL_law_1379 : decode cL_law 1379 = .ok (.if_icmp .eq 392, 3) := by decide +kernel
theorem dL_law_1382 : decode cL_law 1382 = .ok (.iconst 0, 1) := by decide +kernel
theorem dL_law_1383 : decode cL_law 1383 = .ok (.ireturn, 1) := by decide +kernel
theorem dL_law_1384 : decode cL_law 1384 = .ok (.aload_n 1, 1) := by decide +kernel
theorem dL_law_1385 : decode cL_law 1385 = .ok (.invokevirtual 147, 3) := by decide +kernel
theorem dL_law_1388 : decode cL_law 1388 = .ok (.aload_n 2, 1) := by decide +kernel
theorem dL_law_1389 : decode cL_law 1389 = .ok (.invokevirtual 150, 3) := by decide +kernel
theorem dL_law_1392 : decode cL_law 1392 = .ok (.if_icmp .eq 379, 3) := by decide +kernel
theorem dL_law_1395 : decode cL_law 1395 = .ok (.iconst 0, 1) := by decide +kernel
theorem dL_law_1396 : decode cL_law 1396 = .ok (.ireturn, 1) := by decide +kernel
theorem dL_law_1397 : decode cL_law 1397 = .ok (.aload_n 1, 1) := by decide +kernel
theorem dL_law_1398 : decode cL_law 1398 = .ok (.aload_n 0, 1) := by decide +kernel
theorem dL_law_1399 : decode cL_law 1399 = .ok (.iload 4, 2) := by decide +kernel
theorem dL_law_1401 : decode cL_law 1401 = .ok (.iconst 1, 1) := by decide +kernel
theorem dL_law_1402 : decode cL_law 1402 = .ok (.iadd, 1) := by decide +kernel
theorem dL_law_1403 : decode cL_law 1403 = .ok (.iaload, 1) := by decide +kernel
theorem dL_law_1404 : decode cL_law 1404 = .ok (.invokevirtual 151, 3) := by decide +kernel
theorem dL_law_1407 : decode cL_law 1407 = .ok (.aload_n 2, 1) := by decide +kernel
theorem dL_law_1408 : decode cL_law 1408 = .ok (.aload_n 0, 1) := by decide +kernel
theorem dL_law_1409 : decode cL_law 1409 = .ok (.iload 4, 2) := by decide +kernel
theorem dL_law_1411 : decode cL_law 1411 = .ok (.iconst 1, 1) := by decide +kernel
theorem dL_law_1412 : decode cL_law 1412 = .ok (.iadd, 1) := by decide +kernel
theorem dL_law_1413 : decode cL_law 1413 = .ok (.iaload, 1) := by decide +kernel
theorem dL_law_1414 : decode cL_law 1414 = .ok (.invokevirtual 154, 3) := by decide +kernel
theorem dL_law_1417 : decode cL_law 1417 = .ok (.if_icmp .eq 354, 3) := by decide +kernel
theorem dL_law_1420 : decode cL_law 1420 = .ok (.iconst 0, 1) := by decide +kernel
theorem dL_law_1421 : decode cL_law 1421 = .ok (.ireturn, 1) := by decide +kernel
theorem dL_law_1422 : decode cL_law 1422 = .ok (.aload_n 1, 1) := by decide +kernel
theorem dL_law_1423 : decode cL_law 1423 = .ok (.aload_n 0, 1) := by decide +kernel
theorem dL_law_1424 : decode cL_law 1424 = .ok (.iload 4, 2) := by decide +kernel
theorem dL_law_1426 : decode cL_law 1426 = .ok (.iconst 1, 1) := by decide +kernel
theorem dL_law_1427 : decode cL_law 1427 = .ok (.iadd, 1) := by decide +kernel
theorem dL_law_1428 : decode cL_law 1428 = .ok (.iaload, 1) := by decide +kernel
theorem dL_law_1429 : decode cL_law 1429 = .ok (.aload_n 0, 1) := by decide +kernel
theorem dL_law_1430 : decode cL_law 1430 = .ok (.iload 4, 2) := by decide +kernel
theorem dL_law_1432 : decode cL_law 1432 = .ok (.iconst 2, 1) := by decide +kernel
theorem dL_law_1433 : decode cL_law 1433 = .ok (.iadd, 1) := by decide +kernel
theorem dL_law_1434 : decode cL_law 1434 = .ok (.iaload, 1) := by decide +kernel
theorem dL_law_1435 : decode cL_law 1435 = .ok (.aload_n 0, 1) := by decide +kernel
theorem dL_law_1436 : decode cL_law 1436 = .ok (.iload 4, 2) := by decide +kernel
theorem dL_law_1438 : decode cL_law 1438 = .ok (.iconst 3, 1) := by decide +kernel
theorem dL_law_1439 : decode cL_law 1439 = .ok (.iadd, 1) := by decide +kernel
theorem dL_law_1440 : decode cL_law 1440 = .ok (.iaload, 1) := by decide +kernel
theorem dL_law_1441 : decode cL_law 1441 = .ok (.aload_n 0, 1) := by decide +kernel
theorem dL_law_1442 : decode cL_law 1442 = .ok (.iload 4, 2) := by decide +kernel
theorem dL_law_1444 : decode cL_law 1444 = .ok (.iconst 4, 1) := by decide +kernel
theorem dL_law_1445 : decode cL_law 1445 = .ok (.iadd, 1) := by decide +kernel
theorem dL_law_1446 : decode cL_law 1446 = .ok (.iaload, 1) := by decide +kernel
theorem dL_law_1447 : decode cL_law 1447 = .ok (.invokevirtual 155, 3) := by decide +kernel
theorem dL_law_1450 : decode cL_law 1450 = .ok (.aload_n 2, 1) := by decide +kernel
theorem dL_law_1451 : decode cL_law 1451 = .ok (.aload_n 0, 1) := by decide +kernel
theorem dL_law_1452 : decode cL_law 1452 = .ok (.iload 4, 2) := by decide +kernel
theorem dL_law_1454 : decode cL_law 1454 = .ok (.iconst 1, 1) := by decide +kernel
theorem dL_law_1455 : decode cL_law 1455 = .ok (.iadd, 1) := by decide +kernel
theorem dL_law_1456 : decode cL_law 1456 = .ok (.iaload, 1) := by decide +kernel
theorem dL_law_1457 : decode cL_law 1457 = .ok (.aload_n 0, 1) := by decide +kernel
theorem dL_law_1458 : decode cL_law 1458 = .ok (.iload 4, 2) := by decide +kernel
theorem dL_law_1460 : decode cL_law 1460 = .ok (.iconst 2, 1) := by decide +kernel
theorem dL_law_1461 : decode cL_law 1461 = .ok (.iadd, 1) := by decide +kernel
theorem dL_law_1462 : decode cL_law 1462 = .ok (.iaload, 1) := by decide +kernel
theorem dL_law_1463 : decode cL_law 1463 = .ok (.aload_n 0, 1) := by decide +kernel
theorem dL_law_1464 : decode cL_law 1464 = .ok (.iload 4, 2) := by decide +kernel
theorem dL_law_1466 : decode cL_law 1466 = .ok (.iconst 3, 1) := by decide +kernel
theorem dL_law_1467 : decode cL_law 1467 = .ok (.iadd, 1) := by decide +kernel
theorem dL_law_1468 : decode cL_law 1468 = .ok (.iaload, 1) := by decide +kernel
theorem dL_law_1469 : decode cL_law 1469 = .ok (.aload_n 0, 1) := by decide +kernel
theorem dL_law_1470 : decode cL_law 1470 = .ok (.iload 4, 2) := by decide +kernel
theorem dL_law_1472 : decode cL_law 1472 = .ok (.iconst 4, 1) := by decide +kernel
theorem dL_law_1473 : decode cL_law 1473 = .ok (.iadd, 1) := by decide +kernel
theorem dL_law_1474 : decode cL_law 1474 = .ok (.iaload, 1) := by decide +kernel
theorem dL_law_1475 : decode cL_law 1475 = .ok (.invokevirtual 158, 3) := by decide +kernel
theorem dL_law_1478 : decode cL_law 1478 = .ok (.if_icmp .eq 293, 3) := by decide +kernel
theorem dL_law_1481 : decode cL_law 1481 = .ok (.iconst 0, 1) := by decide +kernel
theorem dL_law_1482 : decode cL_law 1482 = .ok (.ireturn, 1) := by decide +kernel
theorem dL_law_1483 : decode cL_law 1483 = .ok (.aload_n 1, 1) := by decide +kernel
theorem dL_law_1484 : decode cL_law 1484 = .ok (.aload_n 0, 1) := by decide +kernel
theorem dL_law_1485 : decode cL_law 1485 = .ok (.iload 4, 2) := by decide +kernel
theorem dL_law_1487 : decode cL_law 1487 = .ok (.iconst 1, 1) := by decide +kernel
theorem dL_law_1488 : decode cL_law 1488 = .ok (.iadd, 1) := by decide +kernel
theorem dL_law_1489 : decode cL_law 1489 = .ok (.iaload, 1) := by decide +kernel
theorem dL_law_1490 : decode cL_law 1490 = .ok (.aload_n 0, 1) := by decide +kernel
theorem dL_law_1491 : decode cL_law 1491 = .ok (.iload 4, 2) := by decide +kernel
theorem dL_law_1493 : decode cL_law 1493 = .ok (.iconst 2, 1) := by decide +kernel
theorem dL_law_1494 : decode cL_law 1494 = .ok (.iadd, 1) := by decide +kernel
theorem dL_law_1495 : decode cL_law 1495 = .ok (.iaload, 1) := by decide +kernel
theorem dL_law_1496 : decode cL_law 1496 = .ok (.aload_n 0, 1) := by decide +kernel
theorem dL_law_1497 : decode cL_law 1497 = .ok (.iload 4, 2) := by decide +kernel
theorem dL_law_1499 : decode cL_law 1499 = .ok (.iconst 3, 1) := by decide +kernel
theorem dL_law_1500 : decode cL_law 1500 = .ok (.iadd, 1) := by decide +kernel
theorem dL_law_1501 : decode cL_law 1501 = .ok (.iaload, 1) := by decide +kernel
theorem dL_law_1502 : decode cL_law 1502 = .ok (.invokevirtual 159, 3) := by decide +kernel
theorem dL_law_1505 : decode cL_law 1505 = .ok (.aload_n 2, 1) := by decide +kernel
theorem dL_law_1506 : decode cL_law 1506 = .ok (.aload_n 0, 1) := by decide +kernel
theorem dL_law_1507 : decode cL_law 1507 = .ok (.iload 4, 2) := by decide +kernel
theorem dL_law_1509 : decode cL_law 1509 = .ok (.iconst 1, 1) := by decide +kernel
theorem dL_law_1510 : decode cL_law 1510 = .ok (.iadd, 1) := by decide +kernel
theorem dL_law_1511 : decode cL_law 1511 = .ok (.iaload, 1) := by decide +kernel
theorem dL_law_1512 : decode cL_law 1512 = .ok (.aload_n 0, 1) := by decide +kernel
theorem dL_law_1513 : decode cL_law 1513 = .ok (.iload 4, 2) := by decide +kernel
theorem dL_law_1515 : decode cL_law 1515 = .ok (.iconst 2, 1) := by decide +kernel
theorem dL_law_1516 : decode cL_law 1516 = .ok (.iadd, 1) := by decide +kernel
theorem dL_law_1517 : decode cL_law 1517 = .ok (.iaload, 1) := by decide +kernel
theorem dL_law_1518 : decode cL_law 1518 = .ok (.aload_n 0, 1) := by decide +kernel
theorem dL_law_1519 : decode cL_law 1519 = .ok (.iload 4, 2) := by decide +kernel
theorem dL_law_1521 : decode cL_law 1521 = .ok (.iconst 3, 1) := by decide +kernel
theorem dL_law_1522 : decode cL_law 1522 = .ok (.iadd, 1) := by decide +kernel
theorem dL_law_1523 : decode cL_law 1523 = .ok (.iaload, 1) := by decide +kernel
theorem dL_law_1524 : decode cL_law 1524 = .ok (.invokevirtual 162, 3) := by decide +kernel
theorem dL_law_1527 : decode cL_law 1527 = .ok (.if_icmp .eq 244, 3) := by decide +kernel
theorem dL_law_1530 : decode cL_law 1530 = .ok (.iconst 0, 1) := by decide +kernel
theorem dL_law_1531 : decode cL_law 1531 = .ok (.ireturn, 1) := by decide +kernel
theorem dL_law_1532 : decode cL_law 1532 = .ok (.aload_n 1, 1) := by decide +kernel
theorem dL_law_1533 : decode cL_law 1533 = .ok (.aload_n 0, 1) := by decide +kernel
theorem dL_law_1534 : decode cL_law 1534 = .ok (.iload 4, 2) := by decide +kernel
theorem dL_law_1536 : decode cL_law 1536 = .ok (.iconst 1, 1) := by decide +kernel
theorem dL_law_1537 : decode cL_law 1537 = .ok (.iadd, 1) := by decide +kernel
theorem dL_law_1538 : decode cL_law 1538 = .ok (.iaload, 1) := by decide +kernel
theorem dL_law_1539 : decode cL_law 1539 = .ok (.aload_n 0, 1) := by decide +kernel
theorem dL_law_1540 : decode cL_law 1540 = .ok (.iload 4, 2) := by decide +kernel
theorem dL_law_1542 : decode cL_law 1542 = .ok (.iconst 2, 1) := by decide +kernel
theorem dL_law_1543 : decode cL_law 1543 = .ok (.iadd, 1) := by decide +kernel
theorem dL_law_1544 : decode cL_law 1544 = .ok (.iaload, 1) := by decide +kernel
theorem dL_law_1545 : decode cL_law 1545 = .ok (.aload_n 0, 1) := by decide +kernel
theorem dL_law_1546 : decode cL_law 1546 = .ok (.iload 4, 2) := by decide +kernel
theorem dL_law_1548 : decode cL_law 1548 = .ok (.iconst 3, 1) := by decide +kernel
theorem dL_law_1549 : decode cL_law 1549 = .ok (.iadd, 1) := by decide +kernel
theorem dL_law_1550 : decode cL_law 1550 = .ok (.iaload, 1) := by decide +kernel
theorem dL_law_1551 : decode cL_law 1551 = .ok (.invokevirtual 163, 3) := by decide +kernel
theorem dL_law_1554 : decode cL_law 1554 = .ok (.aload_n 2, 1) := by decide +kernel
theorem dL_law_1555 : decode cL_law 1555 = .ok (.aload_n 0, 1) := by decide +kernel
theorem dL_law_1556 : decode cL_law 1556 = .ok (.iload 4, 2) := by decide +kernel
theorem dL_law_1558 : decode cL_law 1558 = .ok (.iconst 1, 1) := by decide +kernel
theorem dL_law_1559 : decode cL_law 1559 = .ok (.iadd, 1) := by decide +kernel
theorem dL_law_1560 : decode cL_law 1560 = .ok (.iaload, 1) := by decide +kernel
theorem dL_law_1561 : decode cL_law 1561 = .ok (.aload_n 0, 1) := by decide +kernel
theorem dL_law_1562 : decode cL_law 1562 = .ok (.iload 4, 2) := by decide +kernel
theorem dL_law_1564 : decode cL_law 1564 = .ok (.iconst 2, 1) := by decide +kernel
theorem dL_law_1565 : decode cL_law 1565 = .ok (.iadd, 1) := by decide +kernel
theorem dL_law_1566 : decode cL_law 1566 = .ok (.iaload, 1) := by decide +kernel
theorem dL_law_1567 : decode cL_law 1567 = .ok (.aload_n 0, 1) := by decide +kernel
theorem dL_law_1568 : decode cL_law 1568 = .ok (.iload 4, 2) := by decide +kernel
theorem dL_law_1570 : decode cL_law 1570 = .ok (.iconst 3, 1) := by decide +kernel
theorem dL_law_1571 : decode cL_law 1571 = .ok (.iadd, 1) := by decide +kernel
theorem dL_law_1572 : decode cL_law 1572 = .ok (.iaload, 1) := by decide +kernel
theorem dL_law_1573 : decode cL_law 1573 = .ok (.invokevirtual 166, 3) := by decide +kernel
theorem dL_law_1576 : decode cL_law 1576 = .ok (.if_icmp .eq 195, 3) := by decide +kernel
theorem dL_law_1579 : decode cL_law 1579 = .ok (.iconst 0, 1) := by decide +kernel
theorem dL_law_1580 : decode cL_law 1580 = .ok (.ireturn, 1) := by decide +kernel
theorem dL_law_1581 : decode cL_law 1581 = .ok (.aload_n 1, 1) := by decide +kernel
theorem dL_law_1582 : decode cL_law 1582 = .ok (.aload_n 0, 1) := by decide +kernel
theorem dL_law_1583 : decode cL_law 1583 = .ok (.iload 4, 2) := by decide +kernel
theorem dL_law_1585 : decode cL_law 1585 = .ok (.iconst 1, 1) := by decide +kernel
theorem dL_law_1586 : decode cL_law 1586 = .ok (.iadd, 1) := by decide +kernel
theorem dL_law_1587 : decode cL_law 1587 = .ok (.iaload, 1) := by decide +kernel
theorem dL_law_1588 : decode cL_law 1588 = .ok (.aload_n 0, 1) := by decide +kernel
theorem dL_law_1589 : decode cL_law 1589 = .ok (.iload 4, 2) := by decide +kernel
theorem dL_law_1591 : decode cL_law 1591 = .ok (.iconst 2, 1) := by decide +kernel
theorem dL_law_1592 : decode cL_law 1592 = .ok (.iadd, 1) := by decide +kernel
theorem dL_law_1593 : decode cL_law 1593 = .ok (.iaload, 1) := by decide +kernel
theorem dL_law_1594 : decode cL_law 1594 = .ok (.aload_n 3, 1) := by decide +kernel
theorem dL_law_1595 : decode cL_law 1595 = .ok (.invokestatic 167, 3) := by decide +kernel
theorem dL_law_1598 : decode cL_law 1598 = .ok (.istore 5, 2) := by decide +kernel
theorem dL_law_1600 : decode cL_law 1600 = .ok (.aload_n 2, 1) := by decide +kernel
theorem dL_law_1601 : decode cL_law 1601 = .ok (.aload_n 0, 1) := by decide +kernel
theorem dL_law_1602 : decode cL_law 1602 = .ok (.iload 4, 2) := by decide +kernel
theorem dL_law_1604 : decode cL_law 1604 = .ok (.iconst 1, 1) := by decide +kernel
theorem dL_law_1605 : decode cL_law 1605 = .ok (.iadd, 1) := by decide +kernel
theorem dL_law_1606 : decode cL_law 1606 = .ok (.iaload, 1) := by decide +kernel
theorem dL_law_1607 : decode cL_law 1607 = .ok (.aload_n 0, 1) := by decide +kernel
theorem dL_law_1608 : decode cL_law 1608 = .ok (.iload 4, 2) := by decide +kernel
theorem dL_law_1610 : decode cL_law 1610 = .ok (.iconst 2, 1) := by decide +kernel
theorem dL_law_1611 : decode cL_law 1611 = .ok (.iadd, 1) := by decide +kernel
theorem dL_law_1612 : decode cL_law 1612 = .ok (.iaload, 1) := by decide +kernel
theorem dL_law_1613 : decode cL_law 1613 = .ok (.invokevirtual 172, 3) := by decide +kernel
theorem dL_law_1616 : decode cL_law 1616 = .ok (.lstore 6, 2) := by decide +kernel
theorem dL_law_1618 : decode cL_law 1618 = .ok (.aload_n 2, 1) := by decide +kernel
theorem dL_law_1619 : decode cL_law 1619 = .ok (.invokevirtual 173, 3) := by decide +kernel
theorem dL_law_1622 : decode cL_law 1622 = .ok (.iload 5, 2) := by decide +kernel
theorem dL_law_1624 : decode cL_law 1624 = .ok (.if_icmp .eq 5, 3) := by decide +kernel
theorem dL_law_1627 : decode cL_law 1627 = .ok (.iconst 0, 1) := by decide +kernel
theorem dL_law_1628 : decode cL_law 1628 = .ok (.ireturn, 1) := by decide +kernel
theorem dL_law_1629 : decode cL_law 1629 = .ok (.iload 5, 2) := by decide +kernel
theorem dL_law_1631 : decode cL_law 1631 = .ok (.ifCond .ne 14, 3) := by decide +kernel
theorem dL_law_1634 : decode cL_law 1634 = .ok (.aload_n 3, 1) := by decide +kernel
theorem dL_law_1635 : decode cL_law 1635 = .ok (.iconst 0, 1) := by decide +kernel
theorem dL_law_1636 : decode cL_law 1636 = .ok (.laload, 1) := by decide +kernel
theorem dL_law_1637 : decode cL_law 1637 = .ok (.lload 6, 2) := by decide +kernel
theorem dL_law_1639 : decode cL_law 1639 = .ok (.lcmp, 1) := by decide +kernel
theorem dL_law_1640 : decode cL_law 1640 = .ok (.ifCond .eq 5, 3) := by decide +kernel
theorem dL_law_1643 : decode cL_law 1643 = .ok (.iconst 0, 1) := by decide +kernel
theorem dL_law_1644 : decode cL_law 1644 = .ok (.ireturn, 1) := by decide +kernel
theorem dL_law_1645 : decode cL_law 1645 = .ok (.goto 126, 3) := by decide +kernel
theorem dL_law_1648 : decode cL_law 1648 = .ok (.aload_n 1, 1) := by decide +kernel
theorem dL_law_1649 : decode cL_law 1649 = .ok (.aload_n 0, 1) := by decide +kernel
theorem dL_law_1650 : decode cL_law 1650 = .ok (.iload 4, 2) := by decide +kernel
theorem dL_law_1652 : decode cL_law 1652 = .ok (.iconst 1, 1) := by decide +kernel
theorem dL_law_1653 : decode cL_law 1653 = .ok (.iadd, 1) := by decide +kernel
theorem dL_law_1654 : decode cL_law 1654 = .ok (.iaload, 1) := by decide +kernel
theorem dL_law_1655 : decode cL_law 1655 = .ok (.aload_n 0, 1) := by decide +kernel
theorem dL_law_1656 : decode cL_law 1656 = .ok (.iload 4, 2) := by decide +kernel
theorem dL_law_1658 : decode cL_law 1658 = .ok (.iconst 2, 1) := by decide +kernel
theorem dL_law_1659 : decode cL_law 1659 = .ok (.iadd, 1) := by decide +kernel
theorem dL_law_1660 : decode cL_law 1660 = .ok (.iaload, 1) := by decide +kernel
theorem dL_law_1661 : decode cL_law 1661 = .ok (.aload_n 0, 1) := by decide +kernel
theorem dL_law_1662 : decode cL_law 1662 = .ok (.iload 4, 2) := by decide +kernel
theorem dL_law_1664 : decode cL_law 1664 = .ok (.iconst 3, 1) := by decide +kernel
theorem dL_law_1665 : decode cL_law 1665 = .ok (.iadd, 1) := by decide +kernel
theorem dL_law_1666 : decode cL_law 1666 = .ok (.iaload, 1) := by decide +kernel
theorem dL_law_1667 : decode cL_law 1667 = .ok (.aload_n 0, 1) := by decide +kernel
theorem dL_law_1668 : decode cL_law 1668 = .ok (.iload 4, 2) := by decide +kernel
theorem dL_law_1670 : decode cL_law 1670 = .ok (.iconst 4, 1) := by decide +kernel
theorem dL_law_1671 : decode cL_law 1671 = .ok (.iadd, 1) := by decide +kernel
theorem dL_law_1672 : decode cL_law 1672 = .ok (.iaload, 1) := by decide +kernel
theorem dL_law_1673 : decode cL_law 1673 = .ok (.aload_n 0, 1) := by decide +kernel
theorem dL_law_1674 : decode cL_law 1674 = .ok (.iload 4, 2) := by decide +kernel
theorem dL_law_1676 : decode cL_law 1676 = .ok (.iconst 5, 1) := by decide +kernel
theorem dL_law_1677 : decode cL_law 1677 = .ok (.iadd, 1) := by decide +kernel
theorem dL_law_1678 : decode cL_law 1678 = .ok (.iaload, 1) := by decide +kernel
theorem dL_law_1679 : decode cL_law 1679 = .ok (.invokevirtual 176, 3) := by decide +kernel
theorem dL_law_1682 : decode cL_law 1682 = .ok (.aload_n 2, 1) := by decide +kernel
theorem dL_law_1683 : decode cL_law 1683 = .ok (.aload_n 0, 1) := by decide +kernel
theorem dL_law_1684 : decode cL_law 1684 = .ok (.iload 4, 2) := by decide +kernel
theorem dL_law_1686 : decode cL_law 1686 = .ok (.iconst 1, 1) := by decide +kernel
theorem dL_law_1687 : decode cL_law 1687 = .ok (.iadd, 1) := by decide +kernel
theorem dL_law_1688 : decode cL_law 1688 = .ok (.iaload, 1) := by decide +kernel
theorem dL_law_1689 : decode cL_law 1689 = .ok (.aload_n 0, 1) := by decide +kernel
theorem dL_law_1690 : decode cL_law 1690 = .ok (.iload 4, 2) := by decide +kernel
theorem dL_law_1692 : decode cL_law 1692 = .ok (.iconst 2, 1) := by decide +kernel
theorem dL_law_1693 : decode cL_law 1693 = .ok (.iadd, 1) := by decide +kernel
theorem dL_law_1694 : decode cL_law 1694 = .ok (.iaload, 1) := by decide +kernel
theorem dL_law_1695 : decode cL_law 1695 = .ok (.aload_n 0, 1) := by decide +kernel
theorem dL_law_1696 : decode cL_law 1696 = .ok (.iload 4, 2) := by decide +kernel
theorem dL_law_1698 : decode cL_law 1698 = .ok (.iconst 3, 1) := by decide +kernel
theorem dL_law_1699 : decode cL_law 1699 = .ok (.iadd, 1) := by decide +kernel
theorem dL_law_1700 : decode cL_law 1700 = .ok (.iaload, 1) := by decide +kernel
theorem dL_law_1701 : decode cL_law 1701 = .ok (.aload_n 0, 1) := by decide +kernel
theorem dL_law_1702 : decode cL_law 1702 = .ok (.iload 4, 2) := by decide +kernel
theorem dL_law_1704 : decode cL_law 1704 = .ok (.iconst 4, 1) := by decide +kernel
theorem dL_law_1705 : decode cL_law 1705 = .ok (.iadd, 1) := by decide +kernel
theorem dL_law_1706 : decode cL_law 1706 = .ok (.iaload, 1) := by decide +kernel
theorem dL_law_1707 : decode cL_law 1707 = .ok (.aload_n 0, 1) := by decide +kernel
theorem dL_law_1708 : decode cL_law 1708 = .ok (.iload 4, 2) := by decide +kernel
theorem dL_law_1710 : decode cL_law 1710 = .ok (.iconst 5, 1) := by decide +kernel
theorem dL_law_1711 : decode cL_law 1711 = .ok (.iadd, 1) := by decide +kernel
theorem dL_law_1712 : decode cL_law 1712 = .ok (.iaload, 1) := by decide +kernel
theorem dL_law_1713 : decode cL_law 1713 = .ok (.invokevirtual 180, 3) := by decide +kernel
theorem dL_law_1716 : decode cL_law 1716 = .ok (.if_icmp .eq 55, 3) := by decide +kernel
theorem dL_law_1719 : decode cL_law 1719 = .ok (.iconst 0, 1) := by decide +kernel
theorem dL_law_1720 : decode cL_law 1720 = .ok (.ireturn, 1) := by decide +kernel
theorem dL_law_1721 : decode cL_law 1721 = .ok (.aload_n 1, 1) := by decide +kernel
theorem dL_law_1722 : decode cL_law 1722 = .ok (.aload_n 0, 1) := by decide +kernel
theorem dL_law_1723 : decode cL_law 1723 = .ok (.iload 4, 2) := by decide +kernel
theorem dL_law_1725 : decode cL_law 1725 = .ok (.iconst 1, 1) := by decide +kernel
theorem dL_law_1726 : decode cL_law 1726 = .ok (.iadd, 1) := by decide +kernel
theorem dL_law_1727 : decode cL_law 1727 = .ok (.iaload, 1) := by decide +kernel
theorem dL_law_1728 : decode cL_law 1728 = .ok (.invokevirtual 181, 3) := by decide +kernel
theorem dL_law_1731 : decode cL_law 1731 = .ok (.aload_n 2, 1) := by decide +kernel
theorem dL_law_1732 : decode cL_law 1732 = .ok (.aload_n 0, 1) := by decide +kernel
theorem dL_law_1733 : decode cL_law 1733 = .ok (.iload 4, 2) := by decide +kernel
theorem dL_law_1735 : decode cL_law 1735 = .ok (.iconst 1, 1) := by decide +kernel
theorem dL_law_1736 : decode cL_law 1736 = .ok (.iadd, 1) := by decide +kernel
theorem dL_law_1737 : decode cL_law 1737 = .ok (.iaload, 1) := by decide +kernel
theorem dL_law_1738 : decode cL_law 1738 = .ok (.invokevirtual 184, 3) := by decide +kernel
theorem dL_law_1741 : decode cL_law 1741 = .ok (.if_icmp .eq 30, 3) := by decide +kernel
theorem dL_law_1744 : decode cL_law 1744 = .ok (.iconst 0, 1) := by decide +kernel
theorem dL_law_1745 : decode cL_law 1745 = .ok (.ireturn, 1) := by decide +kernel
theorem dL_law_1746 : decode cL_law 1746 = .ok (.aload_n 1, 1) := by decide +kernel
theorem dL_law_1747 : decode cL_law 1747 = .ok (.aload_n 0, 1) := by decide +kernel
theorem dL_law_1748 : decode cL_law 1748 = .ok (.iload 4, 2) := by decide +kernel
theorem dL_law_1750 : decode cL_law 1750 = .ok (.iconst 1, 1) := by decide +kernel
theorem dL_law_1751 : decode cL_law 1751 = .ok (.iadd, 1) := by decide +kernel
theorem dL_law_1752 : decode cL_law 1752 = .ok (.iaload, 1) := by decide +kernel
theorem dL_law_1753 : decode cL_law 1753 = .ok (.invokevirtual 185, 3) := by decide +kernel
theorem dL_law_1756 : decode cL_law 1756 = .ok (.aload_n 2, 1) := by decide +kernel
theorem dL_law_1757 : decode cL_law 1757 = .ok (.aload_n 0, 1) := by decide +kernel
theorem dL_law_1758 : decode cL_law 1758 = .ok (.iload 4, 2) := by decide +kernel
theorem dL_law_1760 : decode cL_law 1760 = .ok (.iconst 1, 1) := by decide +kernel
theorem dL_law_1761 : decode cL_law 1761 = .ok (.iadd, 1) := by decide +kernel
theorem dL_law_1762 : decode cL_law 1762 = .ok (.iaload, 1) := by decide +kernel
theorem dL_law_1763 : decode cL_law 1763 = .ok (.invokevirtual 188, 3) := by decide +kernel
theorem dL_law_1766 : decode cL_law 1766 = .ok (.if_icmp .eq 5, 3) := by decide +kernel
theorem dL_law_1769 : decode cL_law 1769 = .ok (.iconst 0, 1) := by decide +kernel
theorem dL_law_1770 : decode cL_law 1770 = .ok (.ireturn, 1) := by decide +kernel
theorem dL_law_1771 : decode cL_law 1771 = .ok (.iinc 4 6, 3) := by decide +kernel
theorem dL_law_1774 : decode cL_law 1774 = .ok (.goto (-1751), 3) := by decide +kernel
theorem dL_law_1777 : decode cL_law 1777 = .ok (.iconst 1, 1) := by decide +kernel
theorem dL_law_1778 : decode cL_law 1778 = .ok (.ireturn, 1) := by decide +kernel
